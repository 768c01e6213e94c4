section
/-! What the reference holds between two calls; which of its cells are for one call alone. -/
/-- cells for one call alone, numbers and rows -/
def scN : List Nat := [3, 18, 23, 30, 31, 41, 45, 67, 69]
def scR : List Nat := [17, 19, 20, 21, 22, 32, 33, 34, 36, 43, 44, 66, 68, 70]
/-- places of rows for one judging, for a trial -/
def scI (f : Nat) (i : Int) : Prop := ((f = 4 ∨ f = 5 ∨ f = 6 ∨ f = 7) ∧ 40 ≤ i) ∨ ((f = 9 ∨ f = 10 ∨ f = 11 ∨ f = 12 ∨ f = 13) ∧ 3000 ≤ i) ∨ (f = 14 ∧ 9000 ≤ i)
/-- the same but for such cells, and those named -/
def SX (ey ef : List Nat) (s w : SM) : Prop := (∀ y, y ∉ scN → y ∉ ey → w.1 y = s.1 y) ∧ ∀ f, f ∉ scR → f ∉ ef → ∀ i, ¬ scI f i → w.2 f i = s.2 f i
section
variable {ey ef : List Nat} {s w v : SM}
theorem SX.rf : SX ey ef s s := ⟨fun _ _ _ => rfl, fun _ _ _ _ _ => rfl⟩
theorem SX.tr (h1 : SX ey ef s w) (h2 : SX ey ef w v) : SX ey ef s v := ⟨fun y a b => (h2.1 y a b).trans (h1.1 y a b), fun f a b i c => (h2.2 f a b i c).trans (h1.2 f a b i c)⟩
theorem SX.sy (h1 : SX ey ef s w) : SX ey ef w s := ⟨fun y a b => (h1.1 y a b).symm, fun f a b i c => (h1.2 f a b i c).symm⟩
theorem SX.up {ey' ef' : List Nat} (h1 : SX ey ef s w) (hy : ∀ y, y ∈ ey → y ∈ ey') (hf : ∀ y, y ∈ ef → y ∈ ef') : SX ey' ef' s w := ⟨fun y a b => h1.1 y a (fun q => b (hy y q)), fun f a b i c => h1.2 f a (fun q => b (hf f q)) i c⟩
theorem SX.eq {ys fs : List Nat} (h : eqx ys fs s w) (hy : ∀ y, y ∈ ys → y ∈ scN ∨ y ∈ ey) (hf : ∀ f, f ∈ fs → f ∈ scR ∨ f ∈ ef) : SX ey ef s w := ⟨fun y a b => h.1 y (fun q => (hy y q).elim a b), fun f a b i _ => by rw [h.2 f (fun q => (hf f q).elim a b)]⟩
theorem SX.us {y : Nat} {z : Int} (h : SX ey ef s w) : SX ey ef (us s y z) (us w y z) := ⟨fun k a b => by
  show (if k = y then z else w.1 k) = if k = y then z else s.1 k
  rw [h.1 k a b], h.2⟩
theorem SX.ua {f : Nat} {i z : Int} (h : SX ey ef s w) : SX ey ef (ua s f i z) (ua w f i z) := ⟨h.1, fun k a b j c => by
  show (if k = f ∧ j = i then z else w.2 k j) = if k = f ∧ j = i then z else s.2 k j
  rw [h.2 k a b j c]⟩
end
/-- the tree of the sheet -/
def SHT (s : SM) (t : Term) : Prop := ATs s t ∧ full (s.2 9) t ∧ (fl t).Nodup ∧ (fl t).length ≤ 60 ∧ (0 ≤ s.1 8 ∧ s.1 8 ≤ 3000) ∧ hd t = s.1 15 ∧ s.2 12 (hd t) = -9 ∧ s.2 13 (hd t) = -9
/-- what holds of every node that was born -/
def NB (s : SM) : Prop := ∀ x, 0 ≤ x → x < s.1 8 → (0 ≤ s.2 9 x ∧ s.2 9 x < 16) ∧ ((s.2 9 x = 3 ∨ s.2 9 x = 8 ∨ s.2 9 x = 10) → 0 ≤ s.2 10 x ∧ s.2 10 x < 26) ∧ (s.2 9 x = 2 → s.2 10 x = 0 ∨ s.2 10 x = 1) ∧ ((s.2 9 x = 8 ∨ s.2 9 x = 15) → 0 ≤ s.2 11 x ∧ s.2 11 x < s.1 2)
abbrev KIs (s : SM) : Prop := KI (s.1 2) (s.2 4) (s.2 5) (s.2 6) (s.2 7)
/-- the row that was laid -/
def LR (w : SM) (l : List Int) : Prop := w.1 18 = l.length ∧ ∀ (j : Nat) (x : Int), l[j]? = some x → w.2 17 j = x
theorem SHT.lt {s : SM} {t : Term} (h : SHT s t) {x : Int} (hx : x ∈ fl t) : 0 ≤ x ∧ x < s.1 8 ∧ x < 3000 := by
  have := (AT_mem t h.1 x hx).1
  have := h.2.2.2.2.1
  omega
theorem AT_B {so pa up pl : Int → Int} {B B' : Int} (hB : B ≤ B') : ∀ (t : Term), AT so pa up pl B t → AT so pa up pl B' t := by
  intro t
  induction t with
  | index n => intro h; exact ⟨by have := h.1; omega, h.2⟩
  | add t x ih ihx => intro h; exact ⟨ih h.1, ihx h.2.1, h.2.2⟩
  | _ => intro h; exact h.elim
/-- rows that agree on the tree's nodes -/
theorem AT_ag {so pa up pl so' pa' up' pl' : Int → Int} {B B' : Int} (hB : B ≤ B') {t : Term} (h : AT so pa up pl B t) (hnd : (fl t).Nodup) (hs : ∀ x, x ∈ fl t → so' x = so x ∧ up' x = up x ∧ pl' x = pl x ∧ ∀ i, 0 ≤ i → i < 3 → pa' (3 * x + i) = pa (3 * x + i)) : AT so' pa' up' pl' B' t :=
  AT_cg hB t h hnd (fun x hx => ⟨(hs x hx).1, fun i i0 i1 _ => (hs x hx).2.2.2 i i0 (by have := pO_in (so x); omega)⟩) (fun x hx _ => ⟨(hs x hx).2.1, (hs x hx).2.2.1⟩)
theorem SHT.x {ey ef : List Nat} {s w : SM} {t : Term} (h : SHT s t) (hx : SX ey ef s w) (hy : 8 ∉ ey ∧ 15 ∉ ey) (hf : 9 ∉ ef ∧ 12 ∉ ef ∧ 13 ∉ ef ∧ 14 ∉ ef) : SHT w t := by
  have e8 := hx.1 8 (by decide) hy.1
  have hlt := fun x hx => h.lt (x := x) hx
  have e9 : ∀ x, x ∈ fl t → w.2 9 x = s.2 9 x := fun x q => hx.2 9 (by decide) hf.1 x (by have := hlt x q; unfold scI; omega)
  have e12 : ∀ x, x ∈ fl t → w.2 12 x = s.2 12 x := fun x q => hx.2 12 (by decide) hf.2.1 x (by have := hlt x q; unfold scI; omega)
  have e13 : ∀ x, x ∈ fl t → w.2 13 x = s.2 13 x := fun x q => hx.2 13 (by decide) hf.2.2.1 x (by have := hlt x q; unfold scI; omega)
  have hm := hd_mem t h.1
  refine ⟨AT_ag (by omega) h.1 h.2.2.1 (fun x q => ⟨e9 x q, e12 x q, e13 x q, fun i i0 i3 => hx.2 14 (by decide) hf.2.2.2 _ (by have := hlt x q; unfold scI; omega)⟩), ?_, h.2.2.1, h.2.2.2.1, by rw [e8]; exact h.2.2.2.2.1, ?_, ?_, ?_⟩
  · unfold full
    rw [e9 _ hm]
    exact h.2.1
  · rw [hx.1 15 (by decide) hy.2]
    exact h.2.2.2.2.2.1
  · rw [e12 _ hm]
    exact h.2.2.2.2.2.2.1
  · rw [e13 _ hm]
    exact h.2.2.2.2.2.2.2
theorem NB.x {ey ef : List Nat} {s w : SM} (h : NB s) (hx : SX ey ef s w) (h8 : s.1 8 ≤ 3000) (hy : 2 ∉ ey ∧ 8 ∉ ey) (hf : 9 ∉ ef ∧ 10 ∉ ef ∧ 11 ∉ ef) : NB w := fun x h0 h1 => by
  rw [hx.1 8 (by decide) hy.2] at h1
  have hi : ∀ f, (f = 9 ∨ f = 10 ∨ f = 11) → ¬ scI f x := fun f q => by unfold scI; omega
  rw [hx.2 9 (by decide) hf.1 x (hi 9 (by decide)), hx.2 10 (by decide) hf.2.1 x (hi 10 (by decide)), hx.2 11 (by decide) hf.2.2 x (hi 11 (by decide)), hx.1 2 (by decide) hy.1]
  exact h x h0 h1
theorem KI_ag {n n' : Int} {ks ka kb sz ks' ka' kb' sz' : Int → Int} (h : KI n ks ka kb sz) (hn : n' = n) (he : ∀ k, k < 40 → ks' k = ks k ∧ ka' k = ka k ∧ kb' k = kb k ∧ sz' k = sz k) : KI n' ks' ka' kb' sz' := by
  subst hn
  obtain ⟨h1, h2, h3⟩ := h
  refine ⟨h1, fun k k0 k3 => ?_, fun k k3 kn => ?_⟩
  · obtain ⟨e1, e2, e3, e4⟩ := he k (by omega)
    rw [e1, e2, e3, e4]
    exact h2 k k0 k3
  · obtain ⟨q1, q2, q3, q4, q5⟩ := h3 k k3 kn
    obtain ⟨e1, e2, e3, e4⟩ := he k (by omega)
    rw [e1, e2, e3, e4, (he (ka k) (by omega)).2.2.2, (he (kb k) (by omega)).2.2.2]
    exact ⟨q1, q2, q3, q4, q5⟩
theorem KI_x {ey ef : List Nat} {s w : SM} (h : KIs s) (hx : SX ey ef s w) (hy : 2 ∉ ey) (hf : 4 ∉ ef ∧ 5 ∉ ef ∧ 6 ∉ ef ∧ 7 ∉ ef) : KIs w :=
  KI_ag h (hx.1 2 (by decide) hy) (fun k hk => ⟨hx.2 4 (by decide) hf.1 k (by unfold scI; omega), hx.2 5 (by decide) hf.2.1 k (by unfold scI; omega), hx.2 6 (by decide) hf.2.2.1 k (by unfold scI; omega), hx.2 7 (by decide) hf.2.2.2 k (by unfold scI; omega)⟩)
/-- the part of the tree at a node -/
noncomputable def sq (x : Int) (t : Term) : Term := if hd t = x then t else sb x t
theorem sq_ok {so pa up pl : Int → Int} {B x : Int} {t : Term} (h : AT so pa up pl B t) (hf : full so t) (hnd : (fl t).Nodup) (hx : x ∈ fl t) : AT so pa up pl B (sq x t) ∧ full so (sq x t) ∧ hd (sq x t) = x ∧ (∀ y, y ∈ fl (sq x t) → y ∈ fl t) ∧ (fl (sq x t)).Nodup ∧ (fl (sq x t)).length ≤ (fl t).length ∧ dpt (sq x t) ≤ dpt t := by
  unfold sq
  by_cases e : hd t = x
  · rw [if_pos e]
    exact ⟨h, hf, e, fun _ q => q, hnd, Nat.le_refl _, Nat.le_refl _⟩
  · rw [if_neg e]
    obtain ⟨b1, b2, b3, b4, b5, b6⟩ := sb_ok t h hnd hx (Ne.symm e)
    obtain ⟨a, z, h1, h2, h3⟩ := rp_fl t h hnd hx (Ne.symm e)
    refine ⟨b1, b2, b3, b4, ?_, ?_, by omega⟩
    · rw [h2] at hnd
      exact (List.nodup_append.mp (List.nodup_append.mp hnd).2.1).1
    · rw [h2]
      simp only [List.length_append]
      omega
section
variable {iv : List (Int × Int)} {L : Nat} {h0 : MH} {s : SM} {t : Term} {d : Nat}
theorem LR_mem {w : SM} {l : List Int} (h : LR w l) {j : Int} (h0 : 0 ≤ j) (hj : j < w.1 18) : w.2 17 j ∈ l ∧ l[j.toNat]? = some (w.2 17 j) := by
  have h1 := h.1
  have h2 : j.toNat < l.length := by omega
  have h3 := h.2 j.toNat _ (List.getElem?_eq_getElem h2)
  rw [show ((j.toNat : Nat) : Int) = j by omega] at h3
  rw [h3]
  exact ⟨List.getElem_mem h2, List.getElem?_eq_getElem h2⟩
/-- a part of the tree is laid in the row -/
theorem layAt_ok {x : Int} {F : SM → Prop} (h : SHT s t) (hx : x ∈ fl t) (hd : 62 ≤ d) (hF : ∀ w, eqx [18] [17] s w → LR w (fl (sq x t)) → F w) : cm iv L h0 d 78 [vr 307, vi x] (us s 18 0) (qv F) := by
  obtain ⟨a1, a2, a3, a4, a5, a6, a7⟩ := sq_ok h.1 h.2.1 h.2.2.1 hx
  have hl := h.2.2.2.1
  have hdp := dpt_len _ a1
  have := lay_ok (iv := iv) (L := L) (h0 := h0) (s := us s 18 0) (t := sq x t) (D := d - 1) a1 a2 (by have := h.2.2.2.2.1; show s.1 8 ≤ 3004; omega) (by omega) (Int.le_refl 0) (by show (0 : Int) + _ ≤ 80; omega)
  rw [a3, show d - 1 + 1 = d by omega] at this
  refine wcv_mono this (Nat.le_refl _) (fun w hw => hF w ?_ ?_)
  · exact (eqx_us (s := s) (t := s) eqx.rf (y := 18) (z := 0) (by decide)).tr (hw.1)
  · refine ⟨by rw [hw.2.1]; show (0 : Int) + _ = _; omega, fun j y hj => ?_⟩
    have := hw.2.2.1 j y hj
    rw [show (us s 18 0).1 18 + (j : Int) = j from by show (0 : Int) + j = j; omega] at this
    exact this
theorem sq_top (h : SHT s t) : sq (s.1 15) t = t := if_pos h.2.2.2.2.2.1
theorem top_mem (h : SHT s t) : s.1 15 ∈ fl t := by rw [← h.2.2.2.2.2.1]; exact hd_mem t h.1
theorem layAll_ok {F : SM → Prop} (h : SHT s t) (hd : 63 ≤ d) (hF : ∀ w, eqx [18] [17] s w → LR w (fl t) → F w) : cm iv L h0 d 79 [vr 307] s (qv F) := by
  obtain ⟨d, rfl⟩ : ∃ k, d = k + 1 := ⟨d - 1, by omega⟩
  refine B79 (layAt_ok h (top_mem h) (by omega) (fun w h1 h2 => ?_))
  rw [sq_top h] at h2
  exact hF w h1 h2
theorem sizeOf_ok {x : Int} {F : Int → SM → Prop} (h : SHT s t) (hx : x ∈ fl t) (hd : 63 ≤ d) (hF : ∀ w, eqx [18] [17] s w → LR w (fl (sq x t)) → F (fl (sq x t)).length w) : cm iv L h0 d 81 [vr 307, vi x] s (qi F) := by
  obtain ⟨d, rfl⟩ : ∃ k, d = k + 1 := ⟨d - 1, by omega⟩
  refine B81 (layAt_ok h hx (by omega) (fun w h1 h2 => ?_))
  rw [h2.1]
  exact hF w h1 h2
theorem nodes_ok {F : Int → SM → Prop} (h : SHT s t) (hd : 64 ≤ d) (hF : ∀ w, eqx [18] [17] s w → F (fl t).length w) : cm iv L h0 d 82 [vr 307] s (qi F) := by
  obtain ⟨d, rfl⟩ : ∃ k, d = k + 1 := ⟨d - 1, by omega⟩
  refine B82 (sizeOf_ok h (top_mem h) (by omega) (fun w h1 h2 => ?_))
  rw [sq_top h]
  exact hF w h1
theorem isThere_ok {b : Int} {F : Int → SM → Prop} (h : SHT s t) (hd : 64 ≤ d) (hF : ∀ w, eqx [18] [17] s w → LR w (fl t) → F (if b ∈ fl t then 1 else 0) w) : cm iv L h0 d 80 [vr 307, vi b] s (qi F) := by
  obtain ⟨d, rfl⟩ : ∃ k, d = k + 1 := ⟨d - 1, by omega⟩
  refine B80 (layAll_ok h (by omega) (fun w h1 h2 => ?_))
  have hl := h.2.2.2.1
  have h3 := hF w h1 h2
  have key : ∀ (n : Nat) (j : Int), 0 ≤ j → j ≤ w.1 18 → (w.1 18 - j).toNat = n → (∀ i : Nat, (i : Int) < j → (fl t)[i]? ≠ some b) → wm iv L h0 (d + 1) 80 6 [lr 307, li b, li j] [] w (qi F) := by
    intro n
    induction n with
    | zero =>
      intro j j0 j1 hn hno
      refine B80_6 ⟨fun _ => ?_, fun q => by omega⟩
      rw [if_neg (fun q => ?_)] at h3
      · exact h3
      · obtain ⟨i, i1, i2⟩ := List.getElem_of_mem q
        exact hno i (by have := h2.1; omega) (by rw [List.getElem?_eq_getElem i1, i2])
    | succ n ih =>
      intro j j0 j1 hn hno
      have h21 := h2.1
      refine B80_6 ⟨fun q => by omega, fun q => ⟨by omega, fun e => ⟨by omega, ih (j + 1) (by omega) (by omega) (by omega) (fun i hi => ?_)⟩, fun e => ?_⟩⟩
      · by_cases hij : (i : Int) < j
        · exact hno i hij
        · have hij : j = (i : Int) := by omega
          subst hij
          intro c
          exact e (h2.2 i b c)
      · rw [if_pos (by rw [← e]; exact (LR_mem h2 j0 q).1)] at h3
        exact h3
  exact key _ 0 (by omega) (by have := h2.1; omega) rfl (fun i hi => by omega)
def J0 : JT := (fun _ => .null, fun _ => none, fun _ => 0)
/-- what judging the sheet comes to -/
def jdg (s : SM) (t : Term) : JT := (jds s t none J0).1
/-- behind a judging -/
def JW (s w : SM) (t : Term) : Prop := eqx [3] [4, 5, 6, 7, 19, 20, 21] s w ∧ (∀ k, k < 40 → w.2 4 k = s.2 4 k ∧ w.2 5 k = s.2 5 k ∧ w.2 6 k = s.2 6 k ∧ w.2 7 k = s.2 7 k) ∧ KJs w ∧ JR w (jdg s t) (fun x => x ∈ fl t) ∧ w.1 3 ≤ 6000
theorem JW.sx {v : SM} (h : JW s v t) : SX [] [] s v := by
  obtain ⟨h1, h2, -⟩ := h
  refine ⟨fun y a _ => h1.1 y (fun q => a (by simp at q; subst q; decide)), fun f a _ i c => ?_⟩
  by_cases e : f = 4 ∨ f = 5 ∨ f = 6 ∨ f = 7
  · have hi : i < 40 := by unfold scI at c; omega
    obtain ⟨q1, q2, q3, q4⟩ := h2 i hi
    rcases e with rfl | rfl | rfl | rfl <;> assumption
  · rw [h1.2 f (fun q => ?_)]
    simp at q
    simp [scR] at a
    omega
theorem DP_tree (h : SHT s t) : ∀ x, x ∈ fl t → DP (s.2 12) 61 x := fun x hx => by
  have h1 := dpt_len t h.1
  have h2 := h.2.2.2.1
  exact DP_up _ _ _ (by omega) (AT_DP (by have := h.2.2.2.2.1; omega) t 1 h.1 (Or.inl h.2.2.2.2.2.2.1) x hx)
theorem judge_ok {F : SM → Prop} (h : SHT s t) (hN : NB s) (hK : KIs s) (hD : 230 ≤ d) (hF : ∀ w, JW s w t → F w) : cm iv L h0 d 86 [vr 307] s (qv F) := by
  obtain ⟨d, rfl⟩ : ∃ k, d = k + 1 := ⟨d - 1, by omega⟩
  have hdp := dpt_len t h.1
  have hl := h.2.2.2.1
  have htop := h.2.2.2.2.2.1
  have hB := h.2.2.2.2.1
  have hT : PRT (us s 3 40) t := ⟨AT_B (by show s.1 8 ≤ 3004; omega) t h.1, h.2.1, h.2.2.1, fun x hx e => (hN x (h.lt hx).1 (h.lt hx).2.1).2.2.2 e, fun x hx => DP_up 61 70 _ (by omega) (DP_tree h x hx)⟩
  have hKJ : KJs (us s 3 40) := ⟨hK, Int.le_refl 40, fun k k1 k2 => by exfalso; have : k < 40 := k2; omega⟩
  have hP : PRJ (us s 3 40) (hd t) (fl t) J0 (fun _ => False) := ⟨hKJ, fun x => Or.inl (by
    show bnd (s.2 9) (s.2 10) (s.2 12) (s.2 13) 70 (hd t) x = -9
    unfold bnd
    rw [if_pos h.2.2.2.2.2.2.1]), fun x q => q.elim, fun x q => q.elim⟩
  have := jsp_all (iv := iv) (L := L) (h0 := h0) (dpt t) t (us s 3 40) (-1) none J0 (fun _ => False) (Nat.le_refl _) hT hP rfl (by show (40 : Int) + _ ≤ 6000; omega)
  rw [htop] at this
  refine B86 (wci_mono this (by omega) ?_)
  rintro r w ⟨hX, hb, hr, hj⟩
  refine hF w ⟨?_, fun k hk => ?_, hX.2.1, ?_, ?_⟩
  · exact (eqx_us (s := s) (t := s) eqx.rf (y := 3) (z := 40) (by decide)).tr (hX.1.up (fun _ q => q) (fun f q => by simp at q ⊢; omega))
  · exact hX.2.2.1.2.2 k hk
  · intro x hx
    exact hj x (Or.inr hx)
  · have : w.1 3 ≤ 40 + 41 * (fl t).length := hb
    omega
end
end
section
/-! The reference's smallest methods. -/
/-- how often findings came: not more often than there were calls -/
def CM (n : Int) (s : SM) : Prop := ∀ f, 0 ≤ f → f < 6 → 0 ≤ s.2 1 f ∧ s.2 1 f ≤ n
def mtU (s : SM) (f : Int) : SM := ua (us s 0 f) 1 f (s.2 1 f + 1)
/-- the first kind of this shape and these parts -/
def kfd (ks ka kb : Int → Int) (i a b : Int) : Nat → Int → Int
  | 0, _ => -1
  | n + 1, k => if ks k = i ∧ ka k = a ∧ kb k = b then k else kfd ks ka kb i a b n (k + 1)
def kfs (s : SM) (i a b : Int) : Int := kfd (s.2 4) (s.2 5) (s.2 6) i a b (s.1 2 - 3).toNat 3
def kbad (s : SM) (a b : Int) : Prop := ¬ (0 ≤ a ∧ a < s.1 2) ∨ ¬ (0 ≤ b ∧ b < s.1 2) ∨ 40 < 1 + s.2 7 a + s.2 7 b
def kis (p : Int) : Int := if p = 0 then 3 else 4
def kndA (s : SM) (p a b : Int) : Int := if 0 ≤ kfs s (kis p) a b then kfs s (kis p) a b else if s.1 2 = 40 then -2 else s.1 2
def kndU (s : SM) (p a b : Int) : SM := if 0 ≤ kfs s (kis p) a b then s else if s.1 2 = 40 then s else us (ua (ua (ua (ua s 4 (s.1 2) (kis p)) 5 (s.1 2) a) 6 (s.1 2) b) 7 (s.1 2) (1 + s.2 7 a + s.2 7 b)) 2 (s.1 2 + 1)
theorem vk_le {n m k j : Int} (h : vk n k j) (hk : vk n m k) (hm : 40 ≤ m) : vk n m j := by unfold vk at h hk ⊢; omega
theorem kfd_in {ks ka kb : Int → Int} {i a b : Int} : ∀ (n : Nat) (k : Int), 0 ≤ k → kfd ks ka kb i a b n k = -1 ∨ (k ≤ kfd ks ka kb i a b n k ∧ kfd ks ka kb i a b n k < k + n) := by
  intro n
  induction n with
  | zero => intro k _; exact Or.inl rfl
  | succ n ih =>
    intro k hk
    unfold kfd
    by_cases e : ks k = i ∧ ka k = a ∧ kb k = b
    · rw [if_pos e]; right; omega
    · rw [if_neg e]
      rcases ih (k + 1) (by omega) with h | h
      · exact Or.inl h
      · right; omega
theorem LR_cons {w : SM} {l p m : List Int} {x : Int} (h : LR w l) (e : l = p ++ x :: m) : w.2 17 p.length = x ∧ (p.length : Int) < w.1 18 := by
  refine ⟨h.2 p.length x (by rw [e]; simp), ?_⟩
  rw [h.1, e]
  simp
  omega
theorem LR_nil {w : SM} {l p : List Int} (h : LR w l) (e : l = p ++ []) : w.1 18 ≤ p.length := by
  rw [h.1, e]
  simp
theorem app1 {p m : List Int} {x : Int} : p ++ x :: m = (p ++ [x]) ++ m := by simp
/-- the i-th of those that .. -/
def nthp (P : Int → Bool) : List Int → Int → Int
  | [], _ => -9
  | x :: r, i => if P x then (if i = 0 then x else nthp P r (i - 1)) else nthp P r i
theorem nthp_neg (P : Int → Bool) : ∀ (l : List Int) (i : Int), i < 0 → nthp P l i = -9 := by
  intro l
  induction l with
  | nil => intro i _; rfl
  | cons x r ih =>
    intro i hi
    unfold nthp
    cases P x with
    | true => rw [if_pos rfl, if_neg (by omega)]; exact ih _ (by omega)
    | false => rw [if_neg (by decide)]; exact ih _ hi
def cntp (P : Int → Bool) : List Int → Int
  | [] => 0
  | x :: r => (if P x then 1 else 0) + cntp P r
theorem cntp_in (P : Int → Bool) : ∀ (l : List Int), 0 ≤ cntp P l ∧ cntp P l ≤ l.length := by
  intro l
  induction l with
  | nil => exact ⟨Int.le_refl 0, Int.le_refl 0⟩
  | cons x r ih =>
    unfold cntp
    simp only [List.length_cons]
    cases P x <;> simp <;> omega
/-- the first of those behind c -/
def bhd (P : Int → Bool) (c : Int) : List Int → Bool → Int
  | [], _ => -9
  | x :: r, q => if q && P x then x else bhd P c r (q || decide (x = c))
def isH (s : SM) (x : Int) : Bool := decide (s.2 9 x = 0)
def isF (J : JT) (x : Int) : Bool := decide (0 < J.2.2 x)
/-- a kind's signs -/
def sg : Term → List Int
  | .null => [63]
  | .result => [119]
  | .thrown => [116]
  | .add a b => 102 :: (sg a ++ sg b)
  | .mul a b => 112 :: (sg a ++ sg b)
  | _ => []
def SGR (s t : SM) (l : List Int) : Prop := eqx [23] [22] s t ∧ t.1 23 = s.1 23 + l.length ∧ (∀ (j : Nat) (x : Int), l[j]? = some x → t.2 22 (s.1 23 + j) = x) ∧ ∀ j, j < s.1 23 → t.2 22 j = s.2 22 j
theorem SGR.tr {s t u : SM} {l m : List Int} (h1 : SGR s t l) (h2 : SGR t u m) : SGR s u (l ++ m) := by
  obtain ⟨a1, a2, a3, a4⟩ := h1
  obtain ⟨b1, b2, b3, b4⟩ := h2
  refine ⟨a1.tr b1, by rw [b2, a2, List.length_append]; omega, fun j x h => ?_, fun j hj => by rw [b4 j (by omega), a4 j hj]⟩
  by_cases hj : j < l.length
  · rw [List.getElem?_append_left hj] at h
    rw [b4 _ (by omega)]
    exact a3 j x h
  · rw [List.getElem?_append_right (by omega)] at h
    have h3 := b3 _ x h
    have e : t.1 23 + ((j - l.length : Nat) : Int) = s.1 23 + (j : Int) := by omega
    rw [e] at h3
    exact h3
theorem SGR.one {s : SM} {c : Int} : SGR s (us (ua s 22 (s.1 23) c) 23 (s.1 23 + 1)) [c] := by
  refine ⟨eqx_us (eqx_ua eqx.rf (by decide)) (by decide), rfl, fun j x hj => ?_, fun j hj => ?_⟩
  · cases j with
    | zero =>
      simp at hj
      subst hj
      show (if (22 = 22 ∧ s.1 23 + ((0 : Nat) : Int) = s.1 23) then c else _) = c
      rw [if_pos ⟨rfl, by omega⟩]
    | succ j => simp at hj
  · show (if (22 = 22 ∧ j = s.1 23) then c else s.2 22 j) = s.2 22 j
    rw [if_neg (by omega)]
section
variable {iv : List (Int × Int)} {L : Nat} {h0 : MH} {s : SM} {t : Term} {d : Nat}
theorem meets_ok {n f : Int} {F : Int → SM → Prop} (hc : CM n s) (hn : n ≤ 600) (hf : 0 ≤ f ∧ f < 6) (H : F (-3) (mtU s f)) : cm iv L h0 d 61 [vr 307, vi f] s (qi F) := B61 ⟨hf, by have := hc f hf.1 hf.2; omega, H⟩
theorem findings_ok {f : Int} {F : Int → SM → Prop} (H : F (if 1 ≤ f ∧ f ≤ 5 then s.2 1 f else -1) s) : cm iv L h0 (d + 1) 63 [vr 307, vi f] s (qi F) := by
  refine B63 ⟨fun h => ⟨by omega, ?_⟩, fun h => ?_⟩
  · rw [if_pos h] at H; exact H
  · rw [if_neg (by omega)] at H; exact H
theorem kind_ok {p a b : Int} {F : Int → SM → Prop} (hK : KIs s) (H1 : kbad s a b → F (-1) s) (H2 : ¬ kbad s a b → F (kndA s p a b) (kndU s p a b)) : cm iv L h0 (d + 2) 68 [vr 307, vi p, vi a, vi b] s (qi F) := by
  obtain ⟨k1, k2, k3⟩ := hK
  have sz : ∀ k, 0 ≤ k → k < s.1 2 → 1 ≤ s.2 7 k ∧ s.2 7 k ≤ 40 := fun k q0 q1 => by
    have hKJ : KJs (us s 3 40) := ⟨⟨k1, k2, k3⟩, Int.le_refl 40, fun k k1 k2 => by exfalso; have : k < 40 := k2; omega⟩
    exact (hKJ.at (k := k) (Or.inl ⟨q0, q1⟩)).1
  refine B68 ⟨k1, fun ha => ⟨fun hb => ?_, fun hb => H1 (Or.inr (Or.inl (by omega)))⟩, fun ha => H1 (Or.inl (by omega))⟩
  have sa := sz a ha.1 ha.2
  have sb := sz b hb.1 hb.2
  refine ⟨by omega, by omega, by omega, by omega, fun h40 => ?_, fun h40 => H1 (Or.inr (Or.inr (by omega)))⟩
  have H3 := H2 (fun q => by rcases q with q | q | q <;> omega)
  have key : ∀ (n : Nat) (k : Int), 3 ≤ k → k ≤ s.1 2 → (s.1 2 - k).toNat = n → kfs s (kis p) a b = kfd (s.2 4) (s.2 5) (s.2 6) (kis p) a b n k → wm iv L h0 (d + 2) 68 52 [lr 307, ln, li a, li b, li (kis p), li k] [] s (qi F) := by
    intro n
    induction n with
    | zero =>
      intro k q3 qk qn hf
      have hf : kfs s (kis p) a b = -1 := hf
      refine B68_52 ⟨fun _ => ⟨fun h => ⟨by omega, by omega, by omega, by omega, B66 ⟨by omega, ?_⟩⟩, fun h => ?_⟩, fun h => by omega⟩
      · rw [show kndA s p a b = s.1 2 from by unfold kndA; rw [hf, if_neg (by decide), if_neg h], show kndU s p a b = us (ua (ua (ua (ua s 4 (s.1 2) (kis p)) 5 (s.1 2) a) 6 (s.1 2) b) 7 (s.1 2) (1 + s.2 7 a + s.2 7 b)) 2 (s.1 2 + 1) from by unfold kndU; rw [hf, if_neg (by decide), if_neg h]] at H3
        refine ⟨by show -2147483648 ≤ s.1 2 + 1 ∧ s.1 2 + 1 ≤ 2147483647; omega, by show -2147483648 ≤ s.1 2 + 1 - 1 ∧ s.1 2 + 1 - 1 ≤ 2147483647; omega, ?_⟩
        show F (s.1 2 + 1 - 1) _
        rw [show s.1 2 + 1 - 1 = s.1 2 by omega]
        exact H3
      · rw [show kndA s p a b = -2 from by unfold kndA; rw [hf, if_neg (by decide), if_pos h], show kndU s p a b = s from by unfold kndU; rw [hf, if_neg (by decide), if_pos h]] at H3
        exact H3
    | succ n ih =>
      intro k q3 qk qn hf
      have nx : ¬ (s.2 4 k = kis p ∧ s.2 5 k = a ∧ s.2 6 k = b) → wm iv L h0 (d + 2) 68 52 [lr 307, ln, li a, li b, li (kis p), li (k + 1)] [] s (qi F) := fun e => by
        unfold kfd at hf
        rw [if_neg e] at hf
        exact ih (k + 1) (by omega) (by omega) (by omega) hf
      refine B68_52 ⟨fun h => by omega, fun h => ⟨by omega, fun e => ⟨by omega, nx (fun q => e q.1)⟩, fun e1 => ⟨fun e => ⟨by omega, nx (fun q => e q.2.1)⟩, fun e2 => ⟨fun e => ⟨by omega, nx (fun q => e q.2.2)⟩, fun e3 => ?_⟩⟩⟩⟩
      unfold kfd at hf
      rw [if_pos ⟨e1, e2, e3⟩] at hf
      rw [show kndA s p a b = k from by unfold kndA; rw [hf, if_pos (by omega)], show kndU s p a b = s from by unfold kndU; rw [hf, if_pos (by omega)]] at H3
      exact H3
  refine ⟨fun e => ?_, fun e => ?_⟩
  · have := key _ 3 (by omega) (by omega) rfl rfl
    rw [show kis p = 3 from if_pos e] at this
    exact this
  · have := key _ 3 (by omega) (by omega) rfl rfl
    rw [show kis p = 4 from if_neg e] at this
    exact this
def kofA (s : SM) (k w : Int) : Int := if 0 ≤ k ∧ k < s.1 2 then (if w = 0 then s.2 4 k else if w = 1 then s.2 5 k else if w = 2 then s.2 6 k else if w = 3 then s.2 7 k else -1) else -1
theorem kindOf_ok {k w : Int} {F : Int → SM → Prop} (hK : KIs s) (H : F (kofA s k w) s) : cm iv L h0 (d + 2) 69 [vr 307, vi k, vi w] s (qi F) := by
  obtain ⟨k1, k2, k3⟩ := hK
  unfold kofA at H
  refine B69 ⟨k1, fun h1 => ?_, fun h1 => by rw [if_neg (by omega)] at H; exact H⟩
  rw [if_pos h1] at H
  refine ⟨fun h2 => ⟨fun e0 => ⟨fun e1 => ⟨fun e2 => ⟨by omega, ?_⟩, fun e2 => ⟨by omega, ?_⟩⟩, fun e1 => ⟨by omega, ?_⟩⟩, fun e0 => ⟨by omega, ?_⟩⟩, fun h2 => ?_⟩
  · rw [if_neg e0, if_neg e1, if_neg e2, if_pos (by omega)] at H; exact H
  · rw [if_neg e0, if_neg e1, if_pos e2] at H; exact H
  · rw [if_neg e0, if_pos e1] at H; exact H
  · rw [if_pos e0] at H; exact H
  · rw [if_neg (by omega), if_neg (by omega), if_neg (by omega), if_neg (by omega)] at H; exact H
def metA (s : SM) (a b : Int) : Int := if (0 ≤ a ∧ a < s.1 2) ∧ (0 ≤ b ∧ b < s.1 2) then (if kmt (kks s a) (kks s b) then 1 else 0) else -1
theorem KJ_40 (hK : KIs s) : KJ (s.1 2) 40 (s.2 4) (s.2 5) (s.2 6) (s.2 7) := ⟨hK, Int.le_refl 40, fun k k1 k2 => by exfalso; omega⟩
theorem meet_ok {a b : Int} {F : Int → SM → Prop} (hK : KIs s) (h3 : KJs s ∧ s.1 3 ≤ 6000) (hd : 50 ≤ d) (H : F (metA s a b) s) : cm iv L h0 d 72 [vr 307, vi a, vi b] s (qi F) := by
  obtain ⟨d, rfl⟩ : ∃ k, d = k + 2 := ⟨d - 2, by omega⟩
  unfold metA at H
  refine B72 ⟨hK.1, fun ha => ⟨fun hb => ?_, fun hb => by rw [if_neg (by omega)] at H; exact H⟩, fun ha => by rw [if_neg (by omega)] at H; exact H⟩
  rw [if_pos ⟨ha, hb⟩, kks_told ha, kks_told hb] at H
  refine wci_mono (areMeeting_ok h3.1 h3.2 40 a b (h3.1.at (k := a) (Or.inl ha)).1.2 (Or.inl ha) (Or.inl hb)) (by omega) ?_
  rintro r w ⟨rfl, rfl⟩
  cases h : kmt (kts w a) (kts w b) with
  | true => rw [h] at H; exact ⟨fun q => absurd q (by decide), fun _ => H⟩
  | false => rw [h] at H; exact ⟨fun _ => H, fun q => absurd rfl q⟩
theorem spell_ok : ∀ (q : Nat) (s : SM) (k : Int), KJs s → s.2 7 k ≤ q → vks s k → s.1 3 ≤ 6000 → 0 ≤ s.1 23 → s.1 23 + s.2 7 k ≤ 64 → cm iv L h0 q 96 [vr 307, vi k] s (qv fun w => SGR s w (sg (kts s k)) ∧ ((sg (kts s k)).length : Int) = s.2 7 k) := by
  intro q
  induction q with
  | zero =>
    intro s k hK hq hk
    have := (hK.at hk).1
    omega
  | succ q ih =>
    intro s k hK hq hk h3 hz hl
    obtain ⟨z1, z2, z3, z4⟩ := hK.at hk
    have hlt := hk.lt hK.1.1.2 hK.2.1
    have lf := kt_leaf (k := k) hK
    have nd := kt_node hK hk
    have fin : ∀ c : Int, s.2 4 k < 3 → sg (kts s k) = [c] → (SGR s (us (ua s 22 (s.1 23) c) 23 (s.1 23 + 1)) (sg (kts s k)) ∧ ((sg (kts s k)).length : Int) = s.2 7 k) := fun c c3 e => by
      rw [e]
      exact ⟨SGR.one, by have := (z3 c3).2; simp; omega⟩
    have two : ∀ c : Int, 3 ≤ s.2 4 k → sg (kts s k) = c :: (sg (kts s (s.2 5 k)) ++ sg (kts s (s.2 6 k))) → cm iv L h0 q 96 [vr 307, vi (s.2 5 k)] (us (ua s 22 (s.1 23) c) 23 (s.1 23 + 1)) (qv fun s5 => cm iv L h0 q 96 [vr 307, vi (s5.2 6 k)] s5 (qv fun s6 => SGR s s6 (sg (kts s k)) ∧ ((sg (kts s k)).length : Int) = s.2 7 k)) := fun c c3 e => by
      obtain ⟨y1, y2, y3, y4, y5, y6⟩ := z4 c3
      have hm := hK.2.1
      have y2 : vks s (s.2 5 k) := vk_le y2 hk hm
      have y3 : vks s (s.2 6 k) := vk_le y3 hk hm
      refine wcv_mono (ih (us (ua s 22 (s.1 23) c) 23 (s.1 23 + 1)) (s.2 5 k) hK (by show s.2 7 _ ≤ _; omega) y2 h3 (by show 0 ≤ s.1 23 + 1; omega) (by show s.1 23 + 1 + s.2 7 _ ≤ 64; omega)) (Nat.le_refl _) ?_
      rintro w ⟨w1, w2⟩
      have w1' : SGR (us (ua s 22 (s.1 23) c) 23 (s.1 23 + 1)) w (sg (kts s (s.2 5 k))) := w1
      have w2' : ((sg (kts s (s.2 5 k))).length : Int) = s.2 7 (s.2 5 k) := w2
      have a1 := SGR.one.tr w1'
      have e4 : w.2 4 = s.2 4 := a1.1.2 4 (by decide)
      have e5 : w.2 5 = s.2 5 := a1.1.2 5 (by decide)
      have e6 : w.2 6 = s.2 6 := a1.1.2 6 (by decide)
      have e7 : w.2 7 = s.2 7 := a1.1.2 7 (by decide)
      have g2 : w.1 2 = s.1 2 := a1.1.1 2 (by decide)
      have g3 : w.1 3 = s.1 3 := a1.1.1 3 (by decide)
      have g23 : w.1 23 = s.1 23 + 1 + s.2 7 (s.2 5 k) := by
        have := a1.2.1
        simp at this
        omega
      have hKw : KJs w := by
        show KJ (w.1 2) (w.1 3) (w.2 4) (w.2 5) (w.2 6) (w.2 7)
        rw [e4, e5, e6, e7, g2, g3]; exact hK
      have hkt : ∀ x, kts w x = kts s x := fun x => by
        show kt (w.2 4) (w.2 5) (w.2 6) x = _
        rw [e4, e5, e6]
      rw [e6]
      refine wcv_mono (ih w (s.2 6 k) hKw (by rw [e7]; omega) (by show vk (w.1 2) (w.1 3) _; rw [g2, g3]; exact y3) (by omega) (by omega) (by rw [e7]; omega)) (Nat.le_refl _) ?_
      rintro u ⟨u1, u2⟩
      rw [hkt] at u1 u2
      rw [e7] at u2
      have b1 := a1.tr u1
      rw [e]
      refine ⟨by simpa using b1, ?_⟩
      simp only [List.length_cons, List.length_append]
      omega
    have e8 : w8 112 = 112 ∧ w8 102 = 102 ∧ w8 116 = 116 ∧ w8 119 = 119 ∧ w8 63 = 63 := ⟨rfl, rfl, rfl, rfl, rfl⟩
    refine B96 ⟨by omega, fun n0 => ⟨fun n1 => ⟨fun n2 => ⟨fun n3 => ⟨by omega, by decide, by omega, fun c => by omega, fun c => ?_⟩, fun c3 => ⟨by omega, by decide, by omega, fun c => by omega, fun c => ?_⟩⟩, fun c2 => ⟨by omega, by decide, by omega, fun c => ?_, fun c => by omega⟩⟩, fun c1 => ⟨by omega, by decide, by omega, fun c => ?_, fun c => by omega⟩⟩, fun c0 => ⟨by omega, by decide, by omega, fun c => ?_, fun c => by omega⟩⟩
    · rw [e8.1]
      refine two 112 c ?_
      rw [show kts s k = .mul (kts s (s.2 5 k)) (kts s (s.2 6 k)) from nd.2 (by omega)]
      rfl
    · rw [e8.2.1]
      refine two 102 c ?_
      rw [show kts s k = .add (kts s (s.2 5 k)) (kts s (s.2 6 k)) from nd.1 c3]
      rfl
    · rw [e8.2.2.1]
      refine fin 116 c ?_
      rw [show kts s k = .thrown from lf.2.2 c2]
      rfl
    · rw [e8.2.2.2.1]
      refine fin 119 c ?_
      rw [show kts s k = .result from lf.2.1 c1]
      rfl
    · rw [e8.2.2.2.2]
      refine fin 63 c ?_
      rw [show kts s k = .null from lf.1 c0]
      rfl
end
end
section
/-! What the reference tells of its tree. -/
theorem jds_e {s w : SM} (h9 : w.2 9 = s.2 9) (h10 : w.2 10 = s.2 10) (h11 : w.2 11 = s.2 11) (h12 : w.2 12 = s.2 12) (h13 : w.2 13 = s.2 13) (h14 : w.2 14 = s.2 14) (h2 : w.1 2 = s.1 2) (hk : ∀ k, 0 ≤ k → k < s.1 2 → kts w k = kts s k) : jds w = jds s := by
  funext t A J
  have ek : kks w = kks s := by
    funext k
    unfold kks
    rw [h2]
    by_cases e : 0 ≤ k ∧ k < s.1 2
    · rw [if_pos e, if_pos e]; exact hk k e.1 e.2
    · rw [if_neg e, if_neg e]
  have eb : bds w = bds s := by
    funext b x
    show bnd (w.2 9) (w.2 10) (w.2 12) (w.2 13) 70 b x = _
    rw [h9, h10, h12, h13]
  unfold jds
  rw [h9, h10, h11, h14, ek, eb]
theorem jdg_e {s w : SM} {t : Term} (h : eqx [18] [17] s w) : jdg w t = jdg s t := by
  unfold jdg
  rw [jds_e (h.2 9 (by decide)) (h.2 10 (by decide)) (h.2 11 (by decide)) (h.2 12 (by decide)) (h.2 13 (by decide)) (h.2 14 (by decide)) (h.1 2 (by decide)) (fun k _ _ => by
    show kt (w.2 4) (w.2 5) (w.2 6) k = _
    rw [h.2 4 (by decide), h.2 5 (by decide), h.2 6 (by decide)])]
theorem SX_lay {s w : SM} (h : eqx [18] [17] s w) : SX [] [] s w := SX.eq h (by decide) (by decide)
/-- laid and judged -/
def JL (s w : SM) (t : Term) : Prop := eqx [3, 18] [4, 5, 6, 7, 17, 19, 20, 21] s w ∧ SX [] [] s w ∧ LR w (fl t) ∧ (∀ x, x ∈ fl t → w.2 21 x = (jdg s t).2.2 x ∧ 0 ≤ (jdg s t).2.2 x ∧ (jdg s t).2.2 x ≤ 6) ∧ KJs w ∧ w.1 3 ≤ 6000
section
variable {iv : List (Int × Int)} {L : Nat} {h0 : MH} {s : SM} {t : Term} {d : Nat}
theorem jl_ok {F : SM → Prop} {d' : Nat} (h : SHT s t) (hN : NB s) (hK : KIs s) (hD : 230 ≤ d) (hD' : 63 ≤ d') (hF : ∀ w, JL s w t → F w) : cm iv L h0 d 86 [vr 307] s (qv fun s1 => cm iv L h0 d' 79 [vr 307] s1 (qv F)) := by
  refine judge_ok h hN hK hD (fun w hw => ?_)
  have hx := hw.sx
  refine layAll_ok (h.x hx (by decide) (by decide)) hD' (fun v h1 h2 => hF v ?_)
  have h21 : v.2 21 = w.2 21 := h1.2 21 (by decide)
  refine ⟨(hw.1.up (fun y q => by simp at q ⊢; omega) (fun y q => by simp at q ⊢; omega)).tr (h1.up (fun y q => by simp at q ⊢; omega) (fun y q => by simp at q ⊢; omega)), hx.tr (SX_lay h1), h2, fun x hx2 => ?_, ?_, ?_⟩
  · have := (hw.2.2.2.1 x hx2).2.2
    rw [h21]
    exact this
  · have hk := hw.2.2.1
    show KJ (v.1 2) (v.1 3) (v.2 4) (v.2 5) (v.2 6) (v.2 7)
    rw [h1.1 2 (by decide), h1.1 3 (by decide), h1.2 4 (by decide), h1.2 5 (by decide), h1.2 6 (by decide), h1.2 7 (by decide)]
    exact hk
  · rw [h1.1 3 (by decide)]
    exact hw.2.2.2.2
theorem judge2_ok {w : SM} {F : SM → Prop} (h : SHT s t) (hN : NB s) (hK : KIs s) (hw : eqx [18] [17] s w) (hD : 230 ≤ d) (hF : ∀ v, SX [] [] s v → KJs v → v.1 3 ≤ 6000 → JR v (jdg s t) (fun x => x ∈ fl t) → F v) : cm iv L h0 d 86 [vr 307] w (qv F) := by
  have hx := SX_lay hw
  have h8 := h.2.2.2.2.1.2
  refine judge_ok (h.x hx (by decide) (by decide)) (hN.x hx h8 (by decide) (by decide)) (KI_x hK hx (by decide) (by decide)) hD (fun v hv => hF v (hx.tr hv.sx) hv.2.2.1 hv.2.2.2.2 ?_)
  have := hv.2.2.2.1
  rw [jdg_e hw] at this
  exact this
def tldA (s : SM) (t : Term) (b k : Int) : Int := if b ∈ fl t then (if k = 0 then s.2 9 b else if k = 1 then s.2 10 b else if k = 2 then s.2 11 b else if k = 3 then s.2 12 b else if k = 4 then s.2 13 b else if k = 5 then pO (s.2 9 b) else if k = 6 then (jdg s t).2.2 b else -1) else -1
theorem told_ok {b k : Int} {F : Int → SM → Prop} (h : SHT s t) (hN : NB s) (hK : KIs s) (hD : 240 ≤ d) (hF : ∀ w, SX [] [] s w → F (tldA s t b k) w) : cm iv L h0 d 94 [vr 307, vi b, vi k] s (qi F) := by
  obtain ⟨d, rfl⟩ : ∃ k, d = k + 1 := ⟨d - 1, by omega⟩
  refine B94 (isThere_ok h (by omega) (fun w h1 h2 => ⟨fun e => ?_, fun e => ?_⟩))
  · have := hF w (SX_lay h1)
    rw [tldA, if_neg (fun q => by rw [if_pos q] at e; cases e)] at this
    exact this
  · have hb : b ∈ fl t := Classical.byContradiction fun q => by rw [if_neg q] at e; exact e rfl
    have hlt := h.lt hb
    have e0 := (AT_mem t h.1 b hb).2.1
    rw [← h1.2 9 (by decide)] at e0
    have fin : ∀ v z, SX [] [] s v → tldA s t b k = z → F z v := fun v z q1 q2 => by rw [← q2]; exact hF v q1
    have hs := SX_lay h1
    have tl : tldA s t b k = if k = 0 then s.2 9 b else if k = 1 then s.2 10 b else if k = 2 then s.2 11 b else if k = 3 then s.2 12 b else if k = 4 then s.2 13 b else if k = 5 then pO (s.2 9 b) else if k = 6 then (jdg s t).2.2 b else -1 := if_pos hb
    refine ⟨fun hk => ⟨fun q => ⟨by omega, fin w _ hs ?_⟩, fun q => ⟨by omega, fin w _ hs ?_⟩, fun q => ⟨by omega, fin w _ hs ?_⟩, fun q => ⟨by omega, fin w _ hs ?_⟩, fun q => ⟨by omega, fin w _ hs ?_⟩, fun q => ⟨by omega, e0, fin w _ hs ?_⟩, fun q => judge2_ok h hN hK h1 (by omega) (fun v v1 v2 v3 v4 => ⟨by omega, fin v _ v1 ?_⟩)⟩, fun hk => fin w _ hs ?_⟩
    · rw [tl, if_pos q, h1.2 9 (by decide)]
    · subst q; rw [tl, h1.2 10 (by decide)]; rfl
    · subst q; rw [tl, h1.2 11 (by decide)]; rfl
    · subst q; rw [tl, h1.2 12 (by decide)]; rfl
    · subst q; rw [tl, h1.2 13 (by decide)]; rfl
    · subst q; rw [tl, h1.2 9 (by decide)]; rfl
    · obtain rfl : k = 6 := by omega
      rw [tl, (v4 b hb).2.2.1]
      rfl
    · rw [tl, if_neg (by omega), if_neg (by omega), if_neg (by omega), if_neg (by omega), if_neg (by omega), if_neg (by omega), if_neg (by omega)]
/-- a part, none where it has none such -/
def parA (s : SM) (t : Term) (b i : Int) : Int := if b ∈ fl t then (if 0 ≤ i ∧ i < pO (s.2 9 b) then s.2 14 (3 * b + i) else -3) else -1
def parU (s : SM) (t : Term) (b i : Int) : SM := if b ∈ fl t ∧ ¬ (0 ≤ i ∧ i < pO (s.2 9 b)) then mtU s 2 else s
theorem CM.x {n : Int} {ey ef : List Nat} {w : SM} (h : CM n s) (hx : SX ey ef s w) (hf : 1 ∉ ef) : CM n w := fun f f0 f6 => by
  rw [hx.2 1 (by decide) hf f (by unfold scI; omega)]
  exact h f f0 f6
theorem mtU_x {ey ef : List Nat} {w : SM} {f : Int} (hx : SX ey ef s w) (hf : 1 ∉ ef) : SX ey ef (mtU s f) (mtU w f) := by
  unfold mtU
  rw [hx.2 1 (by decide) hf f (by unfold scI; omega)]
  exact hx.us.ua
theorem part_ok {n b i : Int} {F : Int → SM → Prop} (h : SHT s t) (hc : CM n s) (hn : n ≤ 600) (hD : 240 ≤ d) (hF : ∀ w, SX [] [] (parU s t b i) w → F (parA s t b i) w) : cm iv L h0 d 95 [vr 307, vi b, vi i] s (qi F) := by
  obtain ⟨d, rfl⟩ : ∃ k, d = k + 1 := ⟨d - 1, by omega⟩
  refine B95 (isThere_ok h (by omega) (fun w h1 h2 => ⟨fun e => ?_, fun e => ?_⟩))
  · have hb : b ∈ fl t := Classical.byContradiction fun q => by rw [if_neg q] at e; exact e rfl
    have hlt := h.lt hb
    have m := AT_mem t h.1 b hb
    have e9 : w.2 9 = s.2 9 := h1.2 9 (by decide)
    have hp := pO_in (s.2 9 b)
    rw [e9]
    refine ⟨by omega, m.2.1, by omega, fun hi => ⟨by omega, by omega, by omega, ?_⟩, fun hi => ?_⟩
    · have := hF w (by rw [parU, if_neg (fun q => q.2 ⟨hi.1, by omega⟩)]; exact SX_lay h1)
      rw [parA, if_pos hb, if_pos ⟨hi.1, by omega⟩] at this
      rw [h1.2 14 (by decide)]
      exact this
    · refine meets_ok (n := n) (hc.x (SX_lay h1) (by decide)) hn (by decide) ?_
      have := hF (mtU w 2) (by rw [parU, if_pos ⟨hb, by omega⟩]; exact mtU_x (SX_lay h1) (by decide))
      rw [parA, if_pos hb, if_neg (by omega)] at this
      exact this
  · have hb : b ∉ fl t := fun q => by rw [if_pos q] at e; cases e
    have := hF w (by rw [parU, if_neg (fun q => hb q.1)]; exact SX_lay h1)
    rw [parA, if_neg hb] at this
    exact this
/-- sign i of a kind, none behind its end -/
def sgn (T : Term) (i : Int) : Int := if i < 0 then -9 else (sg T).getD i.toNat (-9)
def sigA (s : SM) (t : Term) (b q i : Int) : Int := if b ∈ fl t ∧ 0 ≤ i then (if q = 0 then sgn ((jdg s t).1 b) i else match (jdg s t).2.1 b with
  | none => -9
  | some T => sgn T i) else -1
theorem sign_ok {b q i : Int} {F : Int → SM → Prop} (h : SHT s t) (hN : NB s) (hK : KIs s) (hD : 240 ≤ d) (hF : ∀ w, SX [] [] s w → F (sigA s t b q i) w) : cm iv L h0 d 97 [vr 307, vi b, vi q, vi i] s (qi F) := by
  obtain ⟨d, rfl⟩ : ∃ k, d = k + 1 := ⟨d - 1, by omega⟩
  refine B97 (isThere_ok h (by omega) (fun w h1 h2 => ⟨fun e => ?_, fun e => ?_⟩))
  · have := hF w (SX_lay h1)
    rw [sigA, if_neg (fun c => by rw [if_pos c.1] at e; cases e)] at this
    exact this
  have hb : b ∈ fl t := Classical.byContradiction fun q => by rw [if_neg q] at e; exact e rfl
  have hlt := h.lt hb
  refine ⟨fun hi => judge2_ok h hN hK h1 (by omega) (fun v v1 v2 v3 v4 => ?_), fun hi => ?_⟩
  · obtain ⟨⟨j1, j2⟩, j3, j4⟩ := v4 b hb
    have sp : ∀ k, vks v k → sigA s t b q i = sgn (kts v k) i → cm iv L h0 d 96 [vr 307, vi k] (us v 23 0) (qv fun s5 => ((s5.1 23 ≤ i → F (-9) s5) ∧ (i < s5.1 23 → (0 ≤ i ∧ i < 64) ∧ F (s5.2 22 i) s5))) := fun k hk ek => by
      have hz := (v2.at hk).1
      refine wcv_mono (spell_ok 40 (us v 23 0) k v2 hz.2 hk v3 (Int.le_refl 0) (by show (0 : Int) + v.2 7 k ≤ 64; omega)) (by omega) ?_
      rintro u ⟨⟨u1, u2, u3, u4⟩, u5⟩
      have u2 : u.1 23 = 0 + ((sg (kts v k)).length : Int) := u2
      have u5 : ((sg (kts v k)).length : Int) = v.2 7 k := u5
      have su : SX [] [] s u := v1.tr ((SX.eq (eqx_us (s := v) (t := v) eqx.rf (y := 23) (z := 0) (ys := [23]) (fs := [22]) (by decide)) (by decide) (by decide)).tr (SX.eq u1 (by decide) (by decide)))
      have hF2 := hF u su
      rw [ek, sgn, if_neg (by omega)] at hF2
      refine ⟨fun q1 => ?_, fun q1 => ⟨by omega, ?_⟩⟩
      · rw [List.getD_eq_getElem?_getD, List.getElem?_eq_none (by omega)] at hF2
        exact hF2
      · have hj : i.toNat < (sg (kts v k)).length := by omega
        have := u3 i.toNat _ (List.getElem?_eq_getElem hj)
        have e23 : (us v 23 0).1 23 = 0 := rfl
        rw [e23, show (0 : Int) + (i.toNat : Int) = i by omega] at this
        rw [List.getD_eq_getElem?_getD, List.getElem?_eq_getElem hj] at hF2
        rw [this]
        exact hF2
    have hsa : sigA s t b q i = if q = 0 then sgn ((jdg s t).1 b) i else match (jdg s t).2.1 b with
      | none => -9
      | some T => sgn T i := if_pos ⟨hb, hi⟩
    refine ⟨fun hq => ⟨by omega, fun c => sp _ j1 ?_, fun c => ?_⟩, fun hq => ⟨by omega, fun c => ?_, fun c => ?_⟩⟩
    · rw [hsa, if_pos hq, j2]
    · have := j1.lt v2.1.1.2 v2.2.1
      omega
    · rw [if_neg hq] at hsa
      cases hA : (jdg s t).2.1 b with
      | none => rw [hA] at j3; exact absurd j3 c
      | some T =>
        rw [hA] at j3 hsa
        refine sp _ j3.1 ?_
        rw [hsa, j3.2]
    · have hF2 := hF v v1
      rw [if_neg hq] at hsa
      cases hA : (jdg s t).2.1 b with
      | none =>
        rw [hA] at hsa
        rw [hsa] at hF2
        exact hF2
      | some T =>
        rw [hA] at j3
        have := j3.1.lt v2.1.1.2 v2.2.1
        omega
  · have := hF w (SX_lay h1)
    rw [sigA, if_neg (by omega)] at this
    exact this
end
end
section
/-! More of what the reference tells; the cursor; the box. -/
def holA (s : SM) (t : Term) (i f : Int) : Int := nthp (if f = 0 then isH s else isF (jdg s t)) (fl t) i
def besA (s : SM) (z : Int) : Int := if s.2 12 (s.1 16) = -9 then -9 else if 0 ≤ s.2 13 (s.1 16) + z ∧ s.2 13 (s.1 16) + z < pO (s.2 9 (s.2 12 (s.1 16))) then s.2 14 (3 * s.2 12 (s.1 16) + (s.2 13 (s.1 16) + z)) else -9
def goG (s : SM) (t : Term) (k : Int) : Int := if k = 0 then s.2 12 (s.1 16) else if k = 1 then (if 0 < pO (s.2 9 (s.1 16)) then s.2 14 (3 * s.1 16) else -9) else if k = 2 then besA s 1 else if k = 3 then besA s (-1) else if k = 4 then bhd (isH s) (s.1 16) (fl t) false else s.1 15
def goA (s : SM) (t : Term) (k : Int) : Int := if 0 ≤ k ∧ k ≤ 5 then (if goG s t k = -9 then -4 else goG s t k) else -1
def goU (s : SM) (t : Term) (k : Int) : SM := if (0 ≤ k ∧ k ≤ 5) ∧ goG s t k ≠ -9 then us s 16 (goG s t k) else s
def seeA (t : Term) (b : Int) : Int := if b ∈ fl t then 1 else -1
def seeU (s : SM) (t : Term) (b : Int) : SM := if b ∈ fl t then us s 16 b else s
theorem bhd_c (P : Int → Bool) (c x : Int) (r : List Int) (q : Bool) : bhd P c (x :: r) q = if q && P x then x else bhd P c r (q || decide (x = c)) := rfl
theorem bhd_in (P : Int → Bool) (c : Int) : ∀ (l : List Int) (q : Bool), bhd P c l q = -9 ∨ (bhd P c l q ∈ l ∧ P (bhd P c l q) = true) := by
  intro l
  induction l with
  | nil => intro q; exact Or.inl rfl
  | cons x r ih =>
    intro q
    unfold bhd
    by_cases e : (q && P x) = true
    · rw [if_pos e]
      simp at e
      exact Or.inr ⟨List.mem_cons_self .., e.2⟩
    · rw [if_neg e]
      exact (ih _).imp id (fun h => ⟨List.mem_cons_of_mem _ h.1, h.2⟩)
section
variable {iv : List (Int × Int)} {L : Nat} {h0 : MH} {s : SM} {t : Term} {d : Nat}
theorem SHT.fl80 (h : SHT s t) {p m : List Int} {x : Int} (e : fl t = p ++ x :: m) : (p.length : Int) < 80 ∧ x ∈ fl t := by
  have := h.2.2.2.1
  rw [e] at this ⊢
  simp at this ⊢
  omega
theorem hole_ok {i f : Int} {F : Int → SM → Prop} (h : SHT s t) (hN : NB s) (hK : KIs s) (hD : 240 ≤ d) (hF : ∀ w, SX [] [] s w → F (holA s t i f) w) : cm iv L h0 d 98 [vr 307, vi i, vi f] s (qi F) := by
  obtain ⟨d, rfl⟩ : ∃ k, d = k + 1 := ⟨d - 1, by omega⟩
  refine wc_ok (fun hok _ => ?_)
  have hi : inR i := hok (vi i) (by simp)
  unfold inR at hi
  refine B98 (jl_ok h hN hK (by omega) (by omega) (fun w hw => ?_))
  obtain ⟨w1, w2, w3, w4, -⟩ := hw
  have h2 := hF w w2
  have e9 : w.2 9 = s.2 9 := w1.2 9 (by decide)
  have key : ∀ (m p : List Int) (k : Int), fl t = p ++ m → 0 ≤ k → k ≤ 2147483647 → (0 ≤ i → holA s t i f = nthp (if f = 0 then isH s else isF (jdg s t)) m k) → wm iv L h0 (d + 1) 98 13 [lr 307, li i, li f, li k, li p.length] [] w (qi F) := by
    intro m
    induction m with
    | nil =>
      intro p k e k0 k1 hk
      have := LR_nil w3 e
      refine B98_13 ⟨fun _ => ?_, fun q => by omega⟩
      by_cases hi0 : 0 ≤ i
      · rw [hk hi0] at h2; exact h2
      · rw [holA, nthp_neg _ _ _ (by omega)] at h2; exact h2
    | cons x m ih =>
      intro p k e k0 k1 hk
      obtain ⟨c1, c2⟩ := LR_cons w3 e
      obtain ⟨c3, hx⟩ := h.fl80 e
      have hlt := h.lt hx
      have e' := e
      rw [app1] at e'
      have e1 : ((p ++ [x]).length : Int) = p.length + 1 := by simp
      refine B98_13 ⟨fun q => by omega, fun _ => ⟨fun q => ?_, fun q => ?_⟩⟩
      · rw [holA, nthp_neg _ _ _ q] at h2; exact h2
      have hk := hk q
      unfold nthp at hk
      have go1 : (if f = 0 then isH s else isF (jdg s t)) x = false → wm iv L h0 (d + 1) 98 13 [lr 307, li i, li f, li k, li (p.length + 1)] [] w (qi F) := fun c => by
        rw [c, if_neg (by decide)] at hk
        have := ih (p ++ [x]) k e' k0 k1 (fun _ => hk)
        rw [e1] at this
        exact this
      have go2 : (if f = 0 then isH s else isF (jdg s t)) x = true → k ≠ 0 → wm iv L h0 (d + 1) 98 13 [lr 307, li i, li f, li (k - 1), li (p.length + 1)] [] w (qi F) := fun c kn => by
        rw [c, if_pos rfl, if_neg kn] at hk
        have := ih (p ++ [x]) (k - 1) e' (by omega) (by omega) (fun _ => hk)
        rw [e1] at this
        exact this
      have go3 : (if f = 0 then isH s else isF (jdg s t)) x = true → k = 0 → F x w := fun c kn => by
        rw [c, if_pos rfl, if_pos kn] at hk
        rw [hk] at h2
        exact h2
      rw [c1]
      refine ⟨fun hf => ⟨by omega, by omega, fun c => ⟨by omega, go1 ?_⟩, fun c => ⟨fun kn => ⟨by omega, by omega, go2 ?_ kn⟩, fun kn => go3 ?_ kn⟩⟩, fun hf => ⟨by omega, by omega, fun c => ⟨by omega, go1 ?_⟩, fun c => ⟨fun kn => ⟨by omega, by omega, go2 ?_ kn⟩, fun kn => go3 ?_ kn⟩⟩⟩
      · rw [if_pos hf]; rw [e9] at c; exact decide_eq_false c
      · rw [if_pos hf]; rw [e9] at c; exact decide_eq_true c
      · rw [if_pos hf]; rw [e9] at c; exact decide_eq_true c
      · rw [if_neg hf]; rw [(w4 x hx).1] at c; exact decide_eq_false (by omega)
      · rw [if_neg hf]; rw [(w4 x hx).1] at c; exact decide_eq_true c
      · rw [if_neg hf]; rw [(w4 x hx).1] at c; exact decide_eq_true c
  by_cases hi0 : 0 ≤ i
  · exact key (fl t) [] i rfl hi0 hi.2 (fun _ => rfl)
  · refine B98_13 ⟨fun _ => ?_, fun _ => ⟨fun _ => ?_, fun q => by omega⟩⟩
    · rw [holA, nthp_neg _ _ _ (by omega)] at h2; exact h2
    · rw [holA, nthp_neg _ _ _ (by omega)] at h2; exact h2
theorem holeBehind_ok {F : Int → SM → Prop} (h : SHT s t) (hD : 240 ≤ d) (hF : ∀ w, eqx [18] [17] s w → F (bhd (isH s) (s.1 16) (fl t) false) w) : cm iv L h0 d 104 [vr 307] s (qi F) := by
  obtain ⟨d, rfl⟩ : ∃ k, d = k + 1 := ⟨d - 1, by omega⟩
  refine B104 (layAll_ok h (by omega) (fun w h1 w3 => ?_))
  have h2 := hF w h1
  have e9 : w.2 9 = s.2 9 := h1.2 9 (by decide)
  have e16 : w.1 16 = s.1 16 := h1.1 16 (by decide)
  have key : ∀ (m p : List Int) (q : Bool), fl t = p ++ m → bhd (isH s) (s.1 16) (fl t) false = bhd (isH s) (s.1 16) m q → wm iv L h0 (d + 1) 104 8 [lr 307, li (if q then 1 else 0), li p.length] [] w (qi F) := by
    intro m
    induction m with
    | nil =>
      intro p q e hk
      have := LR_nil w3 e
      refine B104_8 ⟨fun _ => ?_, fun q => by omega⟩
      rw [hk] at h2; exact h2
    | cons x m ih =>
      intro p q e hk
      obtain ⟨c1, c2⟩ := LR_cons w3 e
      obtain ⟨c3, hx⟩ := h.fl80 e
      have hlt := h.lt hx
      have e' := e
      rw [app1] at e'
      have e1 : ((p ++ [x]).length : Int) = p.length + 1 := by simp
      rw [bhd_c] at hk
      refine B104_8 ⟨fun q => by omega, fun _ => ⟨fun q0 => ?_, fun q0 => ?_⟩⟩
      · cases q with
        | true => cases q0
        | false =>
          rw [if_neg (by simp)] at hk
          refine ⟨fun c => absurd rfl c, fun _ => ⟨by omega, fun c => ⟨by omega, ?_⟩, fun c => ⟨by omega, ?_⟩⟩⟩
          · have := ih (p ++ [x]) false e' (by rw [hk, show (false || decide (x = s.1 16)) = false from by rw [← e16]; simp; omega])
            rw [e1] at this
            exact this
          · have := ih (p ++ [x]) true e' (by rw [hk, show (false || decide (x = s.1 16)) = true from by rw [← e16]; simp; omega])
            rw [e1] at this
            exact this
      · cases q with
        | false => exact absurd rfl q0
        | true =>
          rw [c1, e9]
          refine ⟨by omega, by omega, fun c => ⟨fun _ => ⟨by omega, ?_⟩, fun c => by cases c⟩, fun c => ?_⟩
          · rw [if_neg (by simp [isH, c])] at hk
            have := ih (p ++ [x]) true e' (by rw [hk]; rfl)
            rw [e1] at this
            exact this
          · rw [if_pos (by simp [isH, c])] at hk
            rw [hk] at h2
            exact h2
  exact key (fl t) [] false rfl rfl
theorem goneTo_ok {b : Int} {F : Int → SM → Prop} (H1 : b ≠ -9 → F b (us s 16 b)) (H2 : b = -9 → F (-4) s) : cm iv L h0 d 102 [vr 307, vi b] s (qi F) := B102 ⟨H1, H2⟩
theorem besides_ok {z : Int} {F : Int → SM → Prop} (h : SHT s t) (hc : s.1 16 ∈ fl t) (hz : z = 1 ∨ z = -1) (H : F (besA s z) s) : cm iv L h0 (d + 1) 103 [vr 307, vi z] s (qi F) := by
  have hlt := h.lt hc
  have m := AT_mem t h.1 _ hc
  unfold besA at H
  refine B103 ⟨by omega, fun e => ?_, fun e => ?_⟩
  · have hne : s.1 16 ≠ hd t := fun q => e (by rw [q]; exact h.2.2.2.2.2.2.1)
    obtain ⟨u1, u2, u3⟩ := m.2.2.2 hne
    have ul := h.lt u1
    have mu := (AT_mem t h.1 _ u1).2.1
    have hp := pO_in (s.2 9 (s.2 12 (s.1 16)))
    rw [if_neg e] at H
    refine ⟨by omega, fun q => absurd q e, fun _ => ⟨by omega, mu, by omega, fun q => ⟨by omega, by omega, by omega, ?_⟩, fun q => ?_⟩⟩
    · rw [if_pos ⟨q.1, by omega⟩] at H; exact H
    · rw [if_neg (by omega)] at H; exact H
  · rw [if_pos e] at H
    exact ⟨fun _ => H, fun q => absurd e q⟩
theorem go_ok {k : Int} {F : Int → SM → Prop} (h : SHT s t) (hc : s.1 16 ∈ fl t) (hD : 300 ≤ d) (hF : ∀ w, SX [] [] (goU s t k) w → F (goA s t k) w) : cm iv L h0 d 105 [vr 307, vi k] s (qi F) := by
  obtain ⟨d, rfl⟩ : ∃ k, d = k + 2 := ⟨d - 2, by omega⟩
  have hlt := h.lt hc
  have m := AT_mem t h.1 _ hc
  have fin : ∀ w, SX [] [] s w → 0 ≤ k ∧ k ≤ 5 → ∀ g, g = goG s t k → cm iv L h0 (d + 1) 102 [vr 307, vi g] w (qi fun r w => F r w) := fun w hw hk g hg => by
    subst hg
    refine goneTo_ok (fun e => ?_) (fun e => ?_)
    · have := hF (us w 16 (goG s t k)) (by rw [goU, if_pos ⟨hk, e⟩]; exact hw.us)
      rw [goA, if_pos hk, if_neg e] at this
      exact this
    · have := hF w (by rw [goU, if_neg (fun q => q.2 e)]; exact hw)
      rw [goA, if_pos hk, if_pos e] at this
      exact this
  refine B105 ⟨fun e => ⟨by omega, fin s SX.rf (by omega) _ ?_⟩, fun e => ⟨by omega, m.2.1, fun q => fin s SX.rf (by omega) _ ?_, fun q => ⟨by omega, by omega, fin s SX.rf (by omega) _ ?_⟩⟩, fun e => besides_ok h hc (Or.inl rfl) (fin s SX.rf (by omega) _ ?_), fun e => besides_ok h hc (Or.inr rfl) (fin s SX.rf (by omega) _ ?_), fun e => holeBehind_ok h (by omega) (fun w hw => fin w (SX_lay hw) (by omega) _ ?_), fun e => fin s SX.rf (by omega) _ ?_, fun e => ?_⟩
  · subst e; rfl
  · subst e; show _ = if 0 < pO _ then _ else _; rw [if_neg (by omega)]
  · subst e; show _ = if 0 < pO _ then _ else _; rw [if_pos (by omega)]
  · subst e; rfl
  · subst e; rfl
  · subst e; rfl
  · subst e; rfl
  · have := hF s (by rw [goU, if_neg (by omega)]; exact SX.rf)
    rw [goA, if_neg (by omega)] at this
    exact this
theorem seek_ok {b : Int} {F : Int → SM → Prop} (h : SHT s t) (hD : 300 ≤ d) (hF : ∀ w, SX [] [] (seeU s t b) w → F (seeA t b) w) : cm iv L h0 d 106 [vr 307, vi b] s (qi F) := by
  obtain ⟨d, rfl⟩ : ∃ k, d = k + 1 := ⟨d - 1, by omega⟩
  refine B106 (isThere_ok h (by omega) (fun w h1 h2 => ⟨fun e => ?_, fun e => ?_⟩))
  · have hb : b ∈ fl t := Classical.byContradiction fun q => by rw [if_neg q] at e; exact e rfl
    have := hF (us w 16 b) (by rw [seeU, if_pos hb]; exact (SX_lay h1).us)
    rw [seeA, if_pos hb] at this
    exact this
  · have hb : b ∉ fl t := fun q => by rw [if_pos q] at e; cases e
    have := hF w (by rw [seeU, if_neg hb]; exact SX_lay h1)
    rw [seeA, if_neg hb] at this
    exact this
/-- the box -/
def BX (s : SM) : Prop := (0 ≤ s.1 71 ∧ s.1 71 ≤ 8) ∧ ∀ i, 0 ≤ i → i < 8 → 0 ≤ s.2 72 i ∧ s.2 72 i ≤ s.1 8
def boxA (n : Int) : Int := if 8 < n then -1 else if n < 0 then -3 else n
def zbx (s : SM) : SM := (s.1, fun k j => if k = 72 ∧ 0 ≤ j ∧ j < 8 then 0 else s.2 k j)
def boxU (s : SM) (n : Int) : SM := if 8 < n then s else if n < 0 then mtU s 5 else zbx (us s 71 n)
theorem box_ok {c n : Int} {F : Int → SM → Prop} (hc : CM c s) (hn : c ≤ 600) (H : F (boxA n) (boxU s n)) : cm iv L h0 (d + 1) 151 [vr 307, vi n] s (qi F) := by
  unfold boxA boxU at H
  refine B151 ⟨fun a => ⟨fun b => ?_, fun b => meets_ok hc hn (by decide) (by simp only [if_neg (show ¬ 8 < n by omega), if_pos b] at H; exact H)⟩, fun a => by simp only [if_pos a] at H; exact H⟩
  simp only [if_neg (show ¬ 8 < n by omega), if_neg (show ¬ n < 0 by omega)] at H
  have key : ∀ (m : Nat) (k : Int), 0 ≤ k → k ≤ 8 → (8 - k).toNat = m → wm iv L h0 (d + 1) 151 25 [lr 307, li n, li k] [] ((us s 71 n).1, fun y j => if y = 72 ∧ 0 ≤ j ∧ j < k then 0 else s.2 y j) (qi F) := by
    intro m
    induction m with
    | zero =>
      intro k k0 k8 hm
      obtain rfl : k = 8 := by omega
      exact B151_25 ⟨fun _ => H, fun q => by omega⟩
    | succ m ih =>
      intro k k0 k8 hm
      refine B151_25 ⟨fun q => by omega, fun q => ⟨by omega, by omega, ?_⟩⟩
      have := ih (k + 1) (by omega) (by omega) (by omega)
      refine (show ua ((us s 71 n).1, fun y j => if y = 72 ∧ 0 ≤ j ∧ j < k then 0 else s.2 y j) 72 k 0 = ((us s 71 n).1, fun y j => if y = 72 ∧ 0 ≤ j ∧ j < k + 1 then 0 else s.2 y j) from ?_) ▸ this
      unfold ua
      congr 1
      funext y j
      show (if y = 72 ∧ j = k then 0 else if y = 72 ∧ 0 ≤ j ∧ j < k then 0 else s.2 y j) = if y = 72 ∧ 0 ≤ j ∧ j < k + 1 then 0 else s.2 y j
      by_cases e1 : y = 72 ∧ 0 ≤ j ∧ j < k + 1
      · rw [if_pos e1]
        by_cases e2 : y = 72 ∧ j = k
        · rw [if_pos e2]
        · rw [if_neg e2, if_pos (by omega)]
      · rw [if_neg e1, if_neg (by omega), if_neg (by omega)]
  have h3 := key 8 0 (by omega) (by omega) rfl
  refine (show ((us s 71 n).1, fun y j => if y = 72 ∧ 0 ≤ j ∧ j < 0 then 0 else s.2 y j) = us s 71 n from ?_) ▸ h3
  unfold us
  congr 1
  funext y j
  exact if_neg (by omega)
def kepA (s : SM) (t : Term) (i b : Int) : Int := if b ∈ fl t then (if 0 ≤ i ∧ i < s.1 71 then 1 else -3) else -1
def kepU (s : SM) (t : Term) (i b : Int) : SM := if b ∈ fl t then (if 0 ≤ i ∧ i < s.1 71 then ua s 72 i (b + 1) else mtU s 2) else s
theorem keep_ok {c i b : Int} {F : Int → SM → Prop} (h : SHT s t) (hx : BX s) (hc : CM c s) (hn : c ≤ 600) (hD : 300 ≤ d) (hF : ∀ w, SX [] [] (kepU s t i b) w → F (kepA s t i b) w) : cm iv L h0 d 152 [vr 307, vi i, vi b] s (qi F) := by
  obtain ⟨d, rfl⟩ : ∃ k, d = k + 1 := ⟨d - 1, by omega⟩
  refine B152 (isThere_ok h (by omega) (fun w h1 h2 => ⟨fun e => ?_, fun e => ?_⟩))
  · have hb : b ∈ fl t := Classical.byContradiction fun q => by rw [if_neg q] at e; exact e rfl
    have hlt := h.lt hb
    have h71 := hx.1
    have e71 : w.1 71 = s.1 71 := h1.1 71 (by decide)
    rw [e71]
    refine ⟨by omega, fun q => ⟨by omega, by omega, ?_⟩, fun q => meets_ok (hc.x (SX_lay h1) (by decide)) hn (by decide) ?_⟩
    · have := hF (ua w 72 i (b + 1)) (by rw [kepU, if_pos hb, if_pos (by omega)]; exact (SX_lay h1).ua)
      rw [kepA, if_pos hb, if_pos (by omega)] at this
      exact this
    · have := hF (mtU w 2) (by rw [kepU, if_pos hb, if_neg (by omega)]; exact mtU_x (SX_lay h1) (by decide))
      rw [kepA, if_pos hb, if_neg (by omega)] at this
      exact this
  · have hb : b ∉ fl t := fun q => by rw [if_pos q] at e; cases e
    have := hF w (by rw [kepU, if_neg hb]; exact SX_lay h1)
    rw [kepA, if_neg hb] at this
    exact this
/-- what a place of the box lacks -/
def lakA (s : SM) (i k : Int) : Int := if 0 ≤ i ∧ i < s.1 71 then (if s.2 72 i = 0 then 1 else if s.2 9 (s.2 72 i - 1) = k then 0 else 3) else 2
theorem lacks_ok {i k : Int} {F : Int → SM → Prop} (hx : BX s) (h8 : s.1 8 ≤ 3000) (H : F (lakA s i k) s) : cm iv L h0 (d + 1) 153 [vr 307, vi i, vi k] s (qi F) := by
  obtain ⟨x1, x2⟩ := hx
  unfold lakA at H
  refine B153 ⟨by omega, fun q => ?_, fun q => by rw [if_neg (by omega)] at H; exact H⟩
  have := x2 i q.1 (by omega)
  rw [if_pos (by omega)] at H
  refine ⟨by omega, fun e => ?_, fun e => by rw [if_pos e] at H; exact H⟩
  rw [if_neg e] at H
  refine ⟨by omega, by omega, fun e2 => by rw [if_pos e2] at H; exact H, fun e2 => by rw [if_neg e2] at H; exact H⟩
def bxdA (s : SM) (i k : Int) : Int := if k = 1 ∨ k = 3 then (if lakA s i k = 0 then 1 else -3) else -1
def bxdU (s : SM) (i k : Int) : SM := if k = 1 ∨ k = 3 then (if lakA s i k = 0 then us s 73 (s.2 10 (s.2 72 i - 1)) else mtU s (lakA s i k)) else s
theorem lak_0 {i k : Int} (hx : BX s) (h : lakA s i k = 0) : (0 ≤ i ∧ i < s.1 71 ∧ i < 8) ∧ s.2 9 (s.2 72 i - 1) = k ∧ (1 ≤ s.2 72 i ∧ s.2 72 i ≤ s.1 8) := by
  obtain ⟨x1, x2⟩ := hx
  unfold lakA at h
  by_cases a : 0 ≤ i ∧ i < s.1 71
  · rw [if_pos a] at h
    by_cases b : s.2 72 i = 0
    · rw [if_pos b] at h; cases h
    · rw [if_neg b] at h
      by_cases c : s.2 9 (s.2 72 i - 1) = k
      · have := x2 i a.1 (by omega)
        exact ⟨by omega, c, by omega⟩
      · rw [if_neg c] at h; cases h
  · rw [if_neg a] at h; cases h
theorem lak_in {i k : Int} : lakA s i k = 0 ∨ lakA s i k = 1 ∨ lakA s i k = 2 ∨ lakA s i k = 3 := by
  unfold lakA
  split
  · split
    · simp
    · split <;> simp
  · simp
theorem boxed_ok {c i k : Int} {F : Int → SM → Prop} (hx : BX s) (h8 : s.1 8 ≤ 3000) (hc : CM c s) (hn : c ≤ 600) (H : F (bxdA s i k) (bxdU s i k)) : cm iv L h0 (d + 2) 154 [vr 307, vi i, vi k] s (qi F) := by
  have two : (k = 1 ∨ k = 3) → cm iv L h0 (d + 1) 153 [vr 307, vi i, vi k] s (qi fun r2 s1 => ((r2 ≤ 0 → (0 ≤ i ∧ i < 8) ∧ (-2147483648 ≤ (s1.2 72 i) - 1 ∧ (s1.2 72 i) - 1 ≤ 2147483647) ∧ (0 ≤ (s1.2 72 i) - 1 ∧ (s1.2 72 i) - 1 < 3004) ∧ F 1 (us s1 73 (s1.2 10 ((s1.2 72 i) - 1)))) ∧ (0 < r2 → cm iv L h0 (d + 1) 61 [vr 307, vi r2] s1 (qi fun r7 s6 => F r7 s6)))) := fun hk => by
    refine lacks_ok hx h8 ?_
    rw [bxdA, bxdU, if_pos hk, if_pos hk] at H
    have hl := lak_in (s := s) (i := i) (k := k)
    refine ⟨fun q => ?_, fun q => meets_ok hc hn (by omega) ?_⟩
    · have e : lakA s i k = 0 := by omega
      rw [if_pos e, if_pos e] at H
      obtain ⟨l1, l2, l3⟩ := lak_0 hx e
      exact ⟨by omega, by omega, by omega, H⟩
    · rw [if_neg (by omega), if_neg (by omega)] at H
      exact H
  refine B154 ⟨fun e => two (Or.inl e), fun e => ⟨fun e3 => two (Or.inr e3), fun e3 => ?_⟩⟩
  rw [bxdA, bxdU, if_neg (by omega), if_neg (by omega)] at H
  exact H
end
end
section
/-! share, count, digest. -/
theorem tdiv_in {a b : Int} (ha : inR a) (h0 : b ≠ 0) (h1 : b ≠ -1) : inR (a.tdiv b) := by
  unfold inR at ha ⊢
  by_cases e : b = 1
  · subst e
    rw [Int.tdiv_one]
    exact ha
  · have h2 : 2 ≤ b.natAbs := by omega
    have h3 : (a.tdiv b).natAbs = a.natAbs / b.natAbs := Int.natAbs_tdiv a b
    have h4 : a.natAbs / b.natAbs ≤ a.natAbs / 2 := Nat.div_le_div_left h2 (by decide)
    omega
def shaN (s : SM) (i : Int) : Int := s.2 10 (s.2 72 i - 1)
def shaF (s : SM) (i j : Int) : Int := if lakA s i 1 = 2 ∨ lakA s j 1 = 2 then 2 else if lakA s i 1 = 1 ∨ lakA s j 1 = 1 then 1 else if lakA s i 1 = 3 ∨ lakA s j 1 = 3 then 3 else if shaN s j = 0 then 4 else 0
def shaA (s : SM) (i j : Int) : Int := if shaF s i j = 0 then 1 else -3
def shaV (s : SM) (i j : Int) : Int := if shaN s j = -1 then w32 (-(w32 (1000 * shaN s i))) else (w32 (1000 * shaN s i)).tdiv (shaN s j)
def shaU (s : SM) (i j : Int) : SM := if shaF s i j = 0 then us s 73 (shaV s i j) else mtU s (shaF s i j)
def cntA (s : SM) (t : Term) (k : Int) : Int := if k = 0 then s.1 2 else if k = 1 then s.1 8 else if k = 2 then s.1 24 else if k = 3 then cntp (isF (jdg s t)) (fl t) else if k = 4 then cntp (isH s) (fl t) else if k = 5 then s.2 37 0 + s.2 37 1 + s.2 37 2 + s.2 37 3 + s.2 37 4 + s.2 37 5 else if k = 6 then s.1 61 else -1
def dg1 (s : SM) (J : JT) (h x : Int) : Int := 31 * (31 * (31 * (31 * (31 * h + x) + s.2 9 x) + s.2 10 x) + s.2 11 x) + J.2.2 x
def digA (s : SM) (t : Term) : Int := 31 * (31 * (fl t).foldl (dg1 s (jdg s t)) 17 + s.1 16) + s.1 8
section
variable {iv : List (Int × Int)} {L : Nat} {h0 : MH} {s : SM} {t : Term} {d : Nat}
theorem share_ok {c i j : Int} {F : Int → SM → Prop} (hx : BX s) (h8 : s.1 8 ≤ 3000) (hc : CM c s) (hn : c ≤ 600) (H : F (shaA s i j) (shaU s i j)) : cm iv L h0 (d + 2) 155 [vr 307, vi i, vi j] s (qi F) := by
  unfold shaA shaU at H
  have la := lak_in (s := s) (i := i) (k := 1)
  have lb := lak_in (s := s) (i := j) (k := 1)
  have mt : ∀ f, (f = 1 ∨ f = 2 ∨ f = 3 ∨ f = 4) → shaF s i j = f → cm iv L h0 (d + 1) 61 [vr 307, vi f] s (qi fun r s => F r s) := fun f hf e => by
    refine meets_ok hc hn (by omega) ?_
    rw [if_neg (by omega), if_neg (by omega), e] at H
    exact H
  refine B155 (lacks_ok hx h8 (lacks_ok hx h8 ?_))
  have st3 : lakA s i 1 ≠ 2 → lakA s j 1 ≠ 2 → lakA s i 1 ≠ 1 → lakA s j 1 ≠ 1 → wm iv L h0 (d + 2) 155 18 [lr 307, li i, li j, li (lakA s i 1), li (lakA s j 1), li 3] [] s (qi F) := fun a1 a2 a3 a4 => by
    have e0 : shaF s i j = if lakA s i 1 = 3 ∨ lakA s j 1 = 3 then 3 else if shaN s j = 0 then 4 else 0 := by
      unfold shaF
      rw [if_neg (by omega), if_neg (by omega)]
    refine B155_18 ⟨fun q => by omega, fun _ => ⟨fun _ => ⟨fun _ => ⟨fun e => mt 3 (by omega) (by rw [e0, if_pos (Or.inl e)]), fun e => ⟨fun e2 => ⟨by omega, ?_⟩, fun e2 => mt 3 (by omega) (by rw [e0, if_pos (Or.inr e2)])⟩⟩, fun q => by omega⟩, fun q => by omega⟩⟩
    have z1 : lakA s i 1 = 0 := by omega
    have z2 : lakA s j 1 = 0 := by omega
    obtain ⟨b1, b2, b3⟩ := lak_0 hx z1
    obtain ⟨c1, c2, c3⟩ := lak_0 hx z2
    rw [if_neg (by omega)] at e0
    refine B155_18 ⟨fun _ => ⟨by omega, by omega, by omega, fun q => ⟨by omega, by omega, by omega, fun q2 => ⟨q, ?_, ?_⟩, fun q2 => ?_⟩, fun q => mt 4 (by omega) (by rw [e0, if_pos (show shaN s j = 0 from q)])⟩, fun q => by omega⟩
    · exact tdiv_in (w32_in _) q q2
    · have e1 : shaF s i j = 0 := by rw [e0, if_neg (show ¬ shaN s j = 0 from q)]
      rw [if_pos e1, if_pos e1, shaV, if_neg (show ¬ shaN s j = -1 from q2)] at H
      exact H
    · have e1 : shaF s i j = 0 := by rw [e0, if_neg (show ¬ shaN s j = 0 from q)]
      rw [if_pos e1, if_pos e1, shaV, if_pos (show shaN s j = -1 from q2)] at H
      exact H
  have st2 : lakA s i 1 ≠ 2 → lakA s j 1 ≠ 2 → wm iv L h0 (d + 2) 155 18 [lr 307, li i, li j, li (lakA s i 1), li (lakA s j 1), li 2] [] s (qi F) := fun a1 a2 => by
    have e0 : (lakA s i 1 = 1 ∨ lakA s j 1 = 1) → shaF s i j = 1 := fun q => by
      unfold shaF
      rw [if_neg (by omega), if_pos q]
    exact B155_18 ⟨fun q => by omega, fun _ => ⟨fun _ => ⟨fun q => absurd rfl q, fun _ => ⟨fun e => mt 1 (by omega) (e0 (Or.inl e)), fun e => ⟨fun e2 => ⟨by omega, st3 a1 a2 e e2⟩, fun e2 => mt 1 (by omega) (e0 (Or.inr e2))⟩⟩⟩, fun q => by omega⟩⟩
  have e0 : (lakA s i 1 = 2 ∨ lakA s j 1 = 2) → shaF s i j = 2 := fun q => by
    unfold shaF
    rw [if_pos q]
  exact B155_18 ⟨fun q => by omega, fun _ => ⟨fun q => absurd rfl q, fun _ => ⟨fun e => mt 2 (by omega) (e0 (Or.inl e)), fun e => ⟨fun e2 => ⟨by omega, st2 e e2⟩, fun e2 => mt 2 (by omega) (e0 (Or.inr e2))⟩⟩⟩⟩
theorem count_ok {k : Int} {F : Int → SM → Prop} (h : SHT s t) (hN : NB s) (hK : KIs s) (hs : ∀ p, 0 ≤ p → p < 6 → 0 ≤ s.2 37 p ∧ s.2 37 p ≤ 60) (hD : 240 ≤ d) (hF : ∀ w, SX [] [] s w → F (cntA s t k) w) : cm iv L h0 d 157 [vr 307, vi k] s (qi F) := by
  obtain ⟨d, rfl⟩ : ∃ k, d = k + 1 := ⟨d - 1, by omega⟩
  refine B157 ⟨fun hk => jl_ok h hN hK (by omega) (by omega) (fun w hw => ?_), fun hk => ?_⟩
  · obtain ⟨w1, w2, w3, w4, -⟩ := hw
    have h2 := hF w w2
    have e9 : w.2 9 = s.2 9 := w1.2 9 (by decide)
    have e37 : w.2 37 = s.2 37 := w1.2 37 (by decide)
    have lst : wm iv L h0 (d + 1) 157 94 [lr 307, li k, li (cntp (isF (jdg s t)) (fl t)), li (cntp (isH s) (fl t)), li 0, li 0] [] w (qi F) := by
      have p0 := hs 0 (by decide) (by decide)
      have p1 := hs (0 + 1) (by decide) (by decide)
      have p2 := hs (0 + 1 + 1) (by decide) (by decide)
      have p3 := hs (0 + 1 + 1 + 1) (by decide) (by decide)
      have p4 := hs (0 + 1 + 1 + 1 + 1) (by decide) (by decide)
      have p5 := hs (0 + 1 + 1 + 1 + 1 + 1) (by decide) (by decide)
      refine B157_94 ⟨fun q => by omega, fun _ => ⟨by omega, by rw [e37]; omega, by omega, ?_⟩⟩
      refine B157_94 ⟨fun q => by omega, fun _ => ⟨by omega, by rw [e37]; omega, by omega, ?_⟩⟩
      refine B157_94 ⟨fun q => by omega, fun _ => ⟨by omega, by rw [e37]; omega, by omega, ?_⟩⟩
      refine B157_94 ⟨fun q => by omega, fun _ => ⟨by omega, by rw [e37]; omega, by omega, ?_⟩⟩
      refine B157_94 ⟨fun q => by omega, fun _ => ⟨by omega, by rw [e37]; omega, by omega, ?_⟩⟩
      refine B157_94 ⟨fun q => by omega, fun _ => ⟨by omega, by rw [e37]; omega, by omega, ?_⟩⟩
      unfold cntA at h2
      refine B157_94 ⟨fun _ => ⟨fun q => ?_, fun q => ?_, fun q => ?_, fun q => ?_, fun q => ?_, fun q => ?_, fun q => ?_⟩, fun q => by omega⟩
      · simp only [if_pos q] at h2
        rw [w1.1 2 (by decide)]; exact h2
      · subst q
        rw [w1.1 8 (by decide)]; exact h2
      · subst q
        rw [w1.1 24 (by decide)]; exact h2
      · subst q
        exact h2
      · subst q
        exact h2
      · subst q
        rw [e37]
        refine (show (0 + s.2 37 0 + s.2 37 (0 + 1) + s.2 37 (0 + 1 + 1) + s.2 37 (0 + 1 + 1 + 1) + s.2 37 (0 + 1 + 1 + 1 + 1) + s.2 37 (0 + 1 + 1 + 1 + 1 + 1)) = s.2 37 0 + s.2 37 1 + s.2 37 2 + s.2 37 3 + s.2 37 4 + s.2 37 5 from ?_) ▸ h2
        rw [Int.zero_add]
        rfl
      · obtain rfl : k = 6 := by omega
        rw [w1.1 61 (by decide)]; exact h2
    have key : ∀ (m p : List Int) (a b : Int), fl t = p ++ m → (0 ≤ a ∧ a ≤ p.length) → (0 ≤ b ∧ b ≤ p.length) → cntp (isF (jdg s t)) (fl t) = a + cntp (isF (jdg s t)) m → cntp (isH s) (fl t) = b + cntp (isH s) m → wm iv L h0 (d + 1) 157 27 [lr 307, li k, li a, li b, li p.length] [] w (qi F) := by
      intro m
      induction m with
      | nil =>
        intro p a b e ha hb ea eb
        have := LR_nil w3 e
        refine B157_27 ⟨fun _ => ?_, fun q => by omega⟩
        rw [ea, eb, show cntp (isF (jdg s t)) [] = 0 from rfl, show cntp (isH s) [] = 0 from rfl, Int.add_zero, Int.add_zero] at lst
        exact lst
      | cons x m ih =>
        intro p a b e ha hb ea eb
        obtain ⟨c1, c2⟩ := LR_cons w3 e
        obtain ⟨c3, hx⟩ := h.fl80 e
        have hlt := h.lt hx
        have e' := e
        rw [app1] at e'
        have e1 : ((p ++ [x]).length : Int) = p.length + 1 := by simp
        have nx : ∀ u v : Int, u = (if isF (jdg s t) x then 1 else 0) → v = (if isH s x then 1 else 0) → (0 ≤ u ∧ u ≤ 1) → (0 ≤ v ∧ v ≤ 1) → wm iv L h0 (d + 1) 157 27 [lr 307, li k, li (a + u), li (b + v), li (p.length + 1)] [] w (qi F) := fun u v eu ev hu hv => by
          have := ih (p ++ [x]) (a + u) (b + v) e' (by rw [e1]; omega) (by rw [e1]; omega) (by rw [ea, eu, Int.add_assoc]; rfl) (by rw [eb, ev, Int.add_assoc]; rfl)
          rw [e1] at this
          exact this
        rw [show (p.length : Int) = p.length from rfl]
        refine B157_27 ⟨fun q => by omega, fun _ => ?_⟩
        rw [c1, e9, (w4 x hx).1]
        refine ⟨by omega, by omega, fun g => ⟨by omega, fun g2 => ⟨by omega, by omega, nx 0 0 ?_ ?_ (by decide) (by decide)⟩, fun g2 => ⟨by omega, by omega, nx 0 1 ?_ ?_ (by decide) (by decide)⟩⟩, fun g => ⟨by omega, fun g2 => ⟨by omega, by omega, nx 1 0 ?_ ?_ (by decide) (by decide)⟩, fun g2 => ⟨by omega, by omega, nx 1 1 ?_ ?_ (by decide) (by decide)⟩⟩⟩
        · simp [isF]; omega
        · simp [isH, g2]
        · simp [isF]; omega
        · simp [isH, g2]
        · simp [isF]; omega
        · simp [isH, g2]
        · simp [isF]; omega
        · simp [isH, g2]
    exact key (fl t) [] 0 0 rfl (by simp) (by simp) (by simp) (by simp)
  · have := hF s SX.rf
    rw [cntA, if_neg (by omega), if_neg (by omega), if_neg (by omega), if_neg (by omega), if_neg (by omega), if_neg (by omega), if_neg (by omega)] at this
    exact this
theorem digest_ok {F : Int → SM → Prop} (h : SHT s t) (hN : NB s) (hK : KIs s) (hD : 240 ≤ d) (hF : ∀ w, SX [] [] s w → F (digA s t) w) : cm iv L h0 d 158 [vr 307] s (ql F) := by
  obtain ⟨d, rfl⟩ : ∃ k, d = k + 1 := ⟨d - 1, by omega⟩
  refine B158 (jl_ok h hN hK (by omega) (by omega) (fun w hw => ?_))
  obtain ⟨w1, w2, w3, w4, -⟩ := hw
  have h2 := hF w w2
  have e9 : w.2 9 = s.2 9 := w1.2 9 (by decide)
  have e10 : w.2 10 = s.2 10 := w1.2 10 (by decide)
  have e11 : w.2 11 = s.2 11 := w1.2 11 (by decide)
  have key : ∀ (m p : List Int) (a : Int), fl t = p ++ m → (fl t).foldl (dg1 s (jdg s t)) 17 = m.foldl (dg1 s (jdg s t)) a → wm iv L h0 (d + 1) 158 14 [lr 307, ll a, ln, li p.length] [] w (ql F) := by
    intro m
    induction m with
    | nil =>
      intro p a e ea
      have := LR_nil w3 e
      refine B158_14 ⟨fun _ => ?_, fun q => by omega⟩
      rw [w1.1 16 (by decide), w1.1 8 (by decide)]
      rw [digA, ea] at h2
      exact h2
    | cons x m ih =>
      intro p a e ea
      obtain ⟨c1, c2⟩ := LR_cons w3 e
      obtain ⟨c3, hx⟩ := h.fl80 e
      have hlt := h.lt hx
      have e' := e
      rw [app1] at e'
      have e1 : ((p ++ [x]).length : Int) = p.length + 1 := by simp
      refine B158_14 ⟨fun q => by omega, fun _ => ?_⟩
      rw [c1]
      refine ⟨by omega, by omega, by omega, ?_⟩
      have := ih (p ++ [x]) _ e' ea
      rw [e1] at this
      rw [e9, e10, e11, (w4 x hx).1]
      exact this
  exact key (fl t) [] 17 rfl rfl
end
end
section
/-! What the reference keeps for undo(). -/
/-- a tree with what its nodes bore then -/
abbrev Snap : Type := Term × SM
def numOk (so nu : Int) : Prop := ((so = 3 ∨ so = 8 ∨ so = 10) → 0 ≤ nu ∧ nu < 26) ∧ (so = 2 → nu = 0 ∨ nu = 1)
/-- it was a sheet -/
def KP (s : SM) (u : Snap) : Prop := (AT (s.2 9) (u.2.2 14) (u.2.2 12) (u.2.2 13) (s.1 8) u.1 ∧ full (s.2 9) u.1 ∧ (fl u.1).Nodup ∧ (fl u.1).length ≤ 60) ∧ u.2.1 16 ∈ fl u.1 ∧ u.2.2 12 (hd u.1) = -9 ∧ u.2.2 13 (hd u.1) = -9 ∧ ∀ x, x ∈ fl u.1 → numOk (s.2 9 x) (u.2.2 10 x)
/-- what rows hold of it: many, cursor, nodes, numbers, parts, each from a place on -/
def KR (so : Int → Int) (m c : Int) (rn rv rp : Int → Int) (u : Snap) : Prop := m = (fl u.1).length ∧ c = u.2.1 16 ∧ ∀ (k : Nat) (x : Int), (fl u.1)[k]? = some x → rn k = x ∧ rv k = u.2.2 10 x ∧ ∀ j, 0 ≤ j → j < pO (so x) → rp (3 * k + j) = u.2.2 14 (3 * x + j)
def KL (s : SM) (K : List Snap) : Prop := s.1 24 = K.length ∧ K.length ≤ 20 ∧ ∀ (i : Nat) (u : Snap), K[i]? = some u → KR (s.2 9) (s.2 25 i) (s.2 26 i) (fun j => s.2 27 (80 * i + j)) (fun j => s.2 28 (80 * i + j)) (fun j => s.2 29 (240 * i + j)) u ∧ KP s u
/-- what is ahead of an act -/
def AH (w : SM) (u : Snap) : Prop := KR (w.2 9) (w.1 30) (w.1 31) (w.2 32) (w.2 33) (w.2 34) u
def push (K : List Snap) (u : Snap) : List Snap := (if K.length = 20 then K.tail else K) ++ [u]
def sh1 (s : SM) (n : Int) : SM := (s.1, fun k j => if (k = 25 ∨ k = 26) ∧ 0 ≤ j ∧ j < n then s.2 k (j + 1) else s.2 k j)
def sh2 (s : SM) (n : Int) : SM := (s.1, fun k j => if (k = 27 ∨ k = 28) ∧ 0 ≤ j ∧ j < n then s.2 k (j + 80) else s.2 k j)
def sh3 (s : SM) (n : Int) : SM := (s.1, fun k j => if k = 29 ∧ 0 ≤ j ∧ j < n then s.2 k (j + 240) else s.2 k j)
def cp1 (s : SM) (b n : Int) : SM := (s.1, fun k j => if (k = 27 ∨ k = 28) ∧ b ≤ j ∧ j < b + n then s.2 (k + 5) (j - b) else s.2 k j)
def cp2 (s : SM) (b n : Int) : SM := (s.1, fun k j => if k = 29 ∧ b ≤ j ∧ j < b + n then s.2 (k + 5) (j - b) else s.2 k j)
def enS (s : SM) : SM := if s.1 24 = 20 then us (sh3 (sh2 (sh1 s 19) 1520) 4560) 24 19 else s
def en2 (s : SM) (k m c : Int) : SM := cp2 (cp1 (ua (ua s 25 k m) 26 k c) (80 * k) 80) (240 * k) 240
def chg (c a : Int) : Int := if c ≠ 0 then 1 else if a ≠ 0 then 0 else 1
def enU (s : SM) (a : Int) : SM := us (us (en2 (enS s) ((enS s).1 24) (s.1 30) (s.1 31)) 24 ((enS s).1 24 + 1)) 35 (chg (s.1 35) a)
theorem eqS {s w : SM} (h1 : w.1 = s.1) (h2 : ∀ k j, w.2 k j = s.2 k j) : w = s := Prod.ext h1 (funext fun k => funext fun j => h2 k j)
section
variable {iv : List (Int × Int)} {L : Nat} {h0 : MH} {s : SM} {t : Term} {d : Nat}
theorem beginAct_ok {F : SM → Prop} (h : SHT s t) (hD : 70 ≤ d) (hF : ∀ w, eqx [18, 30, 31] [17, 32, 33, 34] s w → LR w (fl t) → AH w (t, s) → F w) : cm iv L h0 d 99 [vr 307] s (qv F) := by
  obtain ⟨d, rfl⟩ : ∃ k, d = k + 1 := ⟨d - 1, by omega⟩
  refine B99 (layAll_ok h (by omega) (fun w h1 w3 => ?_))
  have e10 : w.2 10 = s.2 10 := h1.2 10 (by decide)
  have e14 : w.2 14 = s.2 14 := h1.2 14 (by decide)
  have key : ∀ (m p : List Int) (v : SM), fl t = p ++ m → eqx [30, 31] [32, 33, 34] w v → v.1 30 = w.1 18 → v.1 31 = w.1 16 → (∀ (k : Nat) (x : Int), p[k]? = some x → v.2 32 k = x ∧ v.2 33 k = s.2 10 x ∧ ∀ j, 0 ≤ j → j < 3 → v.2 34 (3 * k + j) = s.2 14 (3 * x + j)) → wm iv L h0 (d + 1) 99 22 [lr 307, li p.length] [] v (qv F) := by
    intro m
    induction m with
    | nil =>
      intro p v e hv v30 v31 hp
      have e18 : v.1 18 = w.1 18 := hv.1 18 (by decide)
      have := LR_nil w3 e
      have ep : p = fl t := by rw [e]; simp
      have es : eqx [18, 30, 31] [17, 32, 33, 34] s v := (h1.up (fun y q => by simp at q ⊢; omega) (fun y q => by simp at q ⊢; omega)).tr (hv.up (fun y q => by simp at q ⊢; omega) (fun y q => by simp at q ⊢; omega))
      refine B99_22 ⟨fun _ => hF v es ⟨by rw [e18]; exact w3.1, fun j x q => by rw [hv.2 17 (by decide)]; exact w3.2 j x q⟩ ⟨by rw [v30]; exact w3.1, by rw [v31]; exact h1.1 16 (by decide), fun k x hk => ?_⟩, fun q => by rw [e18] at q; omega⟩
      obtain ⟨a1, a2, a3⟩ := hp k x (by rw [ep]; exact hk)
      exact ⟨a1, a2, fun j j0 j1 => a3 j j0 (by have := pO_in (v.2 9 x); omega)⟩
    | cons x m ih =>
      intro p v e hv v30 v31 hp
      obtain ⟨c1, c2⟩ := LR_cons w3 e
      obtain ⟨c3, hx⟩ := h.fl80 e
      have hlt := h.lt hx
      have e' := e
      rw [app1] at e'
      have e1 : ((p ++ [x]).length : Int) = p.length + 1 := by simp
      have e18 : v.1 18 = w.1 18 := hv.1 18 (by decide)
      have e17 : v.2 17 = w.2 17 := hv.2 17 (by decide)
      have f10 : v.2 10 = s.2 10 := (hv.2 10 (by decide)).trans e10
      have f14 : v.2 14 = s.2 14 := (hv.2 14 (by decide)).trans e14
      refine B99_22 ⟨fun q => by rw [e18] at q; omega, fun _ => ?_⟩
      rw [e17, c1, f10]
      refine ⟨by omega, by omega, ?_⟩
      refine B99_61 ⟨fun q => by omega, fun _ => ?_⟩
      have g17 : ∀ u, eqx [30, 31] [32, 33, 34] w u → u.2 17 p.length = x := fun u hu => by rw [hu.2 17 (by decide)]; exact c1
      have n1 : eqx [30, 31] [32, 33, 34] w (ua (ua v 32 p.length x) 33 p.length (s.2 10 x)) := eqx_ua (eqx_ua hv (by decide)) (by decide)
      rw [g17 _ n1, show (ua (ua v 32 (p.length : Int) x) 33 p.length (s.2 10 x)).2 14 = s.2 14 from f14]
      refine ⟨by omega, by omega, by omega, by omega, by omega, by omega, by omega, by omega, ?_⟩
      refine B99_61 ⟨fun q => by omega, fun _ => ?_⟩
      have n2 := eqx_ua (f := 34) (i := 3 * (p.length : Int) + 0) (z := s.2 14 (3 * x + 0)) n1 (by decide)
      rw [g17 _ n2, show (ua (ua (ua v 32 (p.length : Int) x) 33 p.length (s.2 10 x)) 34 (3 * p.length + 0) (s.2 14 (3 * x + 0))).2 14 = s.2 14 from f14]
      refine ⟨by omega, by omega, by omega, by omega, by omega, by omega, by omega, by omega, ?_⟩
      refine B99_61 ⟨fun q => by omega, fun _ => ?_⟩
      have n3 := eqx_ua (f := 34) (i := 3 * (p.length : Int) + (0 + 1)) (z := s.2 14 (3 * x + (0 + 1))) n2 (by decide)
      rw [g17 _ n3, show (ua (ua (ua (ua v 32 (p.length : Int) x) 33 p.length (s.2 10 x)) 34 (3 * p.length + 0) (s.2 14 (3 * x + 0))) 34 (3 * p.length + (0 + 1)) (s.2 14 (3 * x + (0 + 1)))).2 14 = s.2 14 from f14]
      refine ⟨by omega, by omega, by omega, by omega, by omega, by omega, by omega, by omega, ?_⟩
      refine B99_61 ⟨fun _ => ⟨by omega, ?_⟩, fun q => by omega⟩
      have n4 := eqx_ua (f := 34) (i := 3 * (p.length : Int) + (0 + 1 + 1)) (z := s.2 14 (3 * x + (0 + 1 + 1))) n3 (by decide)
      have := ih (p ++ [x]) _ e' n4 v30 v31 (fun k y hk => ?_)
      · rw [e1] at this
        exact this
      · simp only [ua_2]
        by_cases hkp : k < p.length
        · rw [List.getElem?_append_left hkp] at hk
          obtain ⟨a1, a2, a3⟩ := hp k y hk
          refine ⟨?_, ?_, fun j j0 j3 => ?_⟩
          · rw [if_neg (by omega), if_neg (by omega), if_neg (by omega), if_neg (by omega), if_neg (by omega)]; exact a1
          · rw [if_neg (by omega), if_neg (by omega), if_neg (by omega), if_neg (by omega)]; exact a2
          · rw [if_neg (by omega), if_neg (by omega), if_neg (by omega), if_neg (by omega), if_neg (by omega)]; exact a3 j j0 j3
        · rw [List.getElem?_append_right (by omega)] at hk
          have hk0 : k = p.length := by
            have := (List.getElem?_eq_some_iff.mp hk).1
            simp at this
            omega
          subst hk0
          simp at hk
          subst hk
          refine ⟨?_, ?_, fun j j0 j3 => ?_⟩
          · rw [if_neg (by first | omega | simp), if_neg (by first | omega | simp), if_neg (by first | omega | simp), if_neg (by first | omega | simp), if_pos (by first | omega | simp)]
          · rw [if_neg (by first | omega | simp), if_neg (by first | omega | simp), if_neg (by first | omega | simp), if_pos (by first | omega | simp)]
          · have hj : j = 0 ∨ j = 1 ∨ j = 2 := by omega
            rcases hj with rfl | rfl | rfl
            · rw [if_neg (by first | omega | simp), if_neg (by first | omega | simp), if_pos (by first | omega | simp)]
            · rw [if_neg (by first | omega | simp), if_pos (by first | omega | simp)]; rfl
            · rw [if_pos (by first | omega | simp)]; rfl
  exact key (fl t) [] _ rfl (eqx_us (eqx_us eqx.rf (by decide)) (by decide)) rfl rfl (fun k x hk => by simp at hk)
theorem elp1 {F : SM → Prop} {a : Int} (hF : wm iv L h0 d 100 53 [lr 307, li a, li 0] [] (sh1 s 19) (qv F)) : wm iv L h0 d 100 11 [lr 307, li a, li 1] [] s (qv F) := by
  have key : ∀ (m : Nat) (k : Int), 1 ≤ k → k ≤ 20 → (20 - k).toNat = m → wm iv L h0 d 100 11 [lr 307, li a, li k] [] (sh1 s (k - 1)) (qv F) := by
    intro m
    induction m with
    | zero =>
      intro k k0 k1 hm
      obtain rfl : k = 20 := by omega
      exact B100_11 ⟨fun _ => hF, fun q => by omega⟩
    | succ m ih =>
      intro k k0 k1 hm
      refine B100_11 ⟨fun q => by omega, fun q => ⟨by omega, by omega, by omega, by omega, ?_⟩⟩
      have := ih (k + 1) (by omega) (by omega) (by omega)
      refine (eqS (s := _) (w := _) rfl (fun y j => ?_) : ua (ua (sh1 s (k - 1)) 25 (k - 1) ((sh1 s (k - 1)).2 25 k)) 26 (k - 1) ((sh1 s (k - 1)).2 26 k) = sh1 s (k + 1 - 1)) ▸ this
      simp only [ua_2, sh1]
      by_cases c1 : (y = 25 ∨ y = 26) ∧ 0 ≤ j ∧ j < k + 1 - 1
      · rw [if_pos c1]
        by_cases c2 : j = k - 1
        · subst c2
          rcases c1.1 with rfl | rfl
          · rw [if_neg (by omega), if_pos (by omega), if_neg (by omega), show k - 1 + 1 = k by omega]
          · rw [if_pos (by omega), if_neg (by omega), show k - 1 + 1 = k by omega]
        · rw [if_neg (by omega), if_neg (by omega), if_pos (by omega)]
      · rw [if_neg c1, if_neg (by omega), if_neg (by omega), if_neg (by omega)]
  refine (eqS rfl (fun y j => ?_) : sh1 s (1 - 1) = s) ▸ key _ 1 (by omega) (by omega) rfl
  simp only [sh1]
  rw [if_neg (by omega)]
theorem elp2 {F : SM → Prop} {a : Int} (hF : wm iv L h0 d 100 98 [lr 307, li a, li 0] [] (sh2 s 1520) (qv F)) : wm iv L h0 d 100 53 [lr 307, li a, li 0] [] s (qv F) := by
  have key : ∀ (m : Nat) (k : Int), 0 ≤ k → k ≤ 1520 → (1520 - k).toNat = m → wm iv L h0 d 100 53 [lr 307, li a, li k] [] (sh2 s k) (qv F) := by
    intro m
    induction m with
    | zero =>
      intro k k0 k1 hm
      obtain rfl : k = 1520 := by omega
      exact B100_53 ⟨fun _ => hF, fun q => by omega⟩
    | succ m ih =>
      intro k k0 k1 hm
      refine B100_53 ⟨fun q => by omega, fun q => ⟨by omega, by omega, by omega, by omega, ?_⟩⟩
      have := ih (k + 1) (by omega) (by omega) (by omega)
      refine (eqS rfl (fun y j => ?_) : ua (ua (sh2 s k) 27 k ((sh2 s k).2 27 (k + 80))) 28 k ((sh2 s k).2 28 (k + 80)) = sh2 s (k + 1)) ▸ this
      simp only [ua_2, sh2]
      by_cases c1 : (y = 27 ∨ y = 28) ∧ 0 ≤ j ∧ j < k + 1
      · rw [if_pos c1]
        by_cases c2 : j = k
        · subst c2
          rcases c1.1 with rfl | rfl
          · rw [if_neg (by omega), if_pos (by omega), if_neg (by omega)]
          · rw [if_pos (by omega), if_neg (by omega)]
        · rw [if_neg (by omega), if_neg (by omega), if_pos (by omega)]
      · rw [if_neg c1, if_neg (by omega), if_neg (by omega), if_neg (by omega)]
  refine (eqS rfl (fun y j => ?_) : sh2 s 0 = s) ▸ key _ 0 (by omega) (by omega) rfl
  simp only [sh2]
  rw [if_neg (by omega)]
theorem elp3 {F : SM → Prop} {a : Int} (h24 : s.1 24 = 20) (hF : wm iv L h0 d 100 165 [lr 307, li a, li 0] [] (ua (ua (us (sh3 s 4560) 24 19) 25 19 (s.1 30)) 26 19 (s.1 31)) (qv F)) : wm iv L h0 d 100 98 [lr 307, li a, li 0] [] s (qv F) := by
  have key : ∀ (m : Nat) (k : Int), 0 ≤ k → k ≤ 4560 → (4560 - k).toNat = m → wm iv L h0 d 100 98 [lr 307, li a, li k] [] (sh3 s k) (qv F) := by
    intro m
    induction m with
    | zero =>
      intro k k0 k1 hm
      obtain rfl : k = 4560 := by omega
      have e : (sh3 s 4560).1 24 - 1 = 19 := by show s.1 24 - 1 = 19; omega
      refine B100_98 ⟨fun _ => ?_, fun q => by omega⟩
      rw [e]
      exact ⟨by omega, by omega, hF⟩
    | succ m ih =>
      intro k k0 k1 hm
      refine B100_98 ⟨fun q => by omega, fun q => ⟨by omega, by omega, by omega, by omega, ?_⟩⟩
      have := ih (k + 1) (by omega) (by omega) (by omega)
      refine (eqS rfl (fun y j => ?_) : ua (sh3 s k) 29 k ((sh3 s k).2 29 (k + 240)) = sh3 s (k + 1)) ▸ this
      simp only [ua_2, sh3]
      by_cases c1 : y = 29 ∧ 0 ≤ j ∧ j < k + 1
      · rw [if_pos c1]
        by_cases c2 : j = k
        · rw [if_pos ⟨c1.1, c2⟩, if_neg (by omega), c1.1, c2]
        · rw [if_neg (by omega), if_pos (by omega)]
      · rw [if_neg c1, if_neg (by omega), if_neg (by omega)]
  refine (eqS rfl (fun y j => ?_) : sh3 s 0 = s) ▸ key _ 0 (by omega) (by omega) rfl
  simp only [sh3]
  rw [if_neg (by omega)]
theorem elp5 {F : SM → Prop} {a : Int} (hk : 0 ≤ s.1 24 ∧ s.1 24 < 20) (hF : F (us (us (cp2 s (240 * s.1 24) 240) 24 (s.1 24 + 1)) 35 (chg (s.1 35) a))) : wm iv L h0 d 100 219 [lr 307, li a, li 0] [] s (qv F) := by
  have key : ∀ (m : Nat) (k : Int), 0 ≤ k → k ≤ 240 → (240 - k).toNat = m → wm iv L h0 d 100 219 [lr 307, li a, li k] [] (cp2 s (240 * s.1 24) k) (qv F) := by
    intro m
    induction m with
    | zero =>
      intro k k0 k1 hm
      obtain rfl : k = 240 := by omega
      unfold chg at hF
      refine B100_219 ⟨fun _ => ⟨by show -2147483648 ≤ s.1 24 + 1 ∧ s.1 24 + 1 ≤ 2147483647; omega, fun q => ?_, fun q => ⟨fun q2 => ?_, fun q2 => ?_⟩⟩, fun q => by omega⟩
      · rw [if_pos (show s.1 35 ≠ 0 from q)] at hF; exact hF
      · rw [if_neg (show ¬ s.1 35 ≠ 0 from fun c => c q), if_pos q2] at hF; exact hF
      · rw [if_neg (show ¬ s.1 35 ≠ 0 from fun c => c q), if_neg (fun c => c q2)] at hF; exact hF
    | succ m ih =>
      intro k k0 k1 hm
      have e24 : (cp2 s (240 * s.1 24) k).1 24 = s.1 24 := rfl
      refine B100_219 ⟨fun q => by omega, fun q => ?_⟩
      rw [e24]
      refine ⟨by omega, by omega, by omega, by omega, by omega, ?_⟩
      have := ih (k + 1) (by omega) (by omega) (by omega)
      refine (eqS rfl (fun y j => ?_) : ua (cp2 s (240 * s.1 24) k) 29 (240 * s.1 24 + k) ((cp2 s (240 * s.1 24) k).2 34 k) = cp2 s (240 * s.1 24) (k + 1)) ▸ this
      simp only [ua_2, cp2]
      by_cases c1 : y = 29 ∧ 240 * s.1 24 ≤ j ∧ j < 240 * s.1 24 + (k + 1)
      · rw [if_pos c1]
        by_cases c2 : j = 240 * s.1 24 + k
        · rw [if_pos ⟨c1.1, c2⟩, if_neg (by omega), c1.1, c2, show 240 * s.1 24 + k - 240 * s.1 24 = k by omega]
        · rw [if_neg (by omega), if_pos (by omega)]
      · rw [if_neg c1, if_neg (by omega), if_neg (by omega)]
  refine (eqS rfl (fun y j => ?_) : cp2 s (240 * s.1 24) 0 = s) ▸ key _ 0 (by omega) (by omega) rfl
  simp only [cp2]
  rw [if_neg (by omega)]
theorem elp4 {F : SM → Prop} {a : Int} (hk : 0 ≤ s.1 24 ∧ s.1 24 < 20) (hF : wm iv L h0 d 100 219 [lr 307, li a, li 0] [] (cp1 s (80 * s.1 24) 80) (qv F)) : wm iv L h0 d 100 165 [lr 307, li a, li 0] [] s (qv F) := by
  have key : ∀ (m : Nat) (k : Int), 0 ≤ k → k ≤ 80 → (80 - k).toNat = m → wm iv L h0 d 100 165 [lr 307, li a, li k] [] (cp1 s (80 * s.1 24) k) (qv F) := by
    intro m
    induction m with
    | zero =>
      intro k k0 k1 hm
      obtain rfl : k = 80 := by omega
      exact B100_165 ⟨fun _ => hF, fun q => by omega⟩
    | succ m ih =>
      intro k k0 k1 hm
      have e24 : (cp1 s (80 * s.1 24) k).1 24 = s.1 24 := rfl
      refine B100_165 ⟨fun q => by omega, fun q => ?_⟩
      rw [e24]
      refine ⟨by omega, by omega, by omega, by omega, by omega, ?_⟩
      have := ih (k + 1) (by omega) (by omega) (by omega)
      refine (eqS rfl (fun y j => ?_) : ua (ua (cp1 s (80 * s.1 24) k) 27 (80 * s.1 24 + k) ((cp1 s (80 * s.1 24) k).2 32 k)) 28 (80 * s.1 24 + k) ((cp1 s (80 * s.1 24) k).2 33 k) = cp1 s (80 * s.1 24) (k + 1)) ▸ this
      simp only [ua_2, cp1]
      by_cases c1 : (y = 27 ∨ y = 28) ∧ 80 * s.1 24 ≤ j ∧ j < 80 * s.1 24 + (k + 1)
      · rw [if_pos c1]
        by_cases c2 : j = 80 * s.1 24 + k
        · rcases c1.1 with e | e
          · rw [if_neg (by omega), if_pos ⟨e, c2⟩, if_neg (by omega), e, c2, show 80 * s.1 24 + k - 80 * s.1 24 = k by omega]
          · rw [if_pos ⟨e, c2⟩, if_neg (by omega), e, c2, show 80 * s.1 24 + k - 80 * s.1 24 = k by omega]
        · rw [if_neg (by omega), if_neg (by omega), if_pos (by omega)]
      · rw [if_neg c1, if_neg (by omega), if_neg (by omega), if_neg (by omega)]
  refine (eqS rfl (fun y j => ?_) : cp1 s (80 * s.1 24) 0 = s) ▸ key _ 0 (by omega) (by omega) rfl
  simp only [cp1]
  rw [if_neg (by omega)]
theorem endAct_ok {F : SM → Prop} {a : Int} (hk : 0 ≤ s.1 24 ∧ s.1 24 ≤ 20) (hF : F (enU s a)) : cm iv L h0 d 100 [vr 307, vi a] s (qv F) := by
  unfold enU at hF
  refine B100 ⟨fun e => ⟨by omega, elp4 (by show 0 ≤ s.1 24 ∧ s.1 24 < 20; omega) (elp5 (by show 0 ≤ s.1 24 ∧ s.1 24 < 20; omega) ?_)⟩, fun e => elp1 (elp2 (elp3 e (elp4 (by show (0 : Int) ≤ 19 ∧ (19 : Int) < 20; decide) (elp5 (by show (0 : Int) ≤ 19 ∧ (19 : Int) < 20; decide) ?_))))⟩
  · rw [show enS s = s from if_neg e] at hF
    exact hF
  · rw [show enS s = us (sh3 (sh2 (sh1 s 19) 1520) 4560) 24 19 from if_pos e] at hF
    exact hF
end
end
section
/-! What is kept behind an act; undo(). -/
section
variable {s w : SM} {k m c j a : Int}
theorem en2_25 : (en2 s k m c).2 25 j = if j = k then m else s.2 25 j := by
  simp [en2, cp2, cp1, ua_2]
theorem en2_26 : (en2 s k m c).2 26 j = if j = k then c else s.2 26 j := by
  simp [en2, cp2, cp1, ua_2]
theorem en2_27 : (en2 s k m c).2 27 j = if 80 * k ≤ j ∧ j < 80 * k + 80 then s.2 32 (j - 80 * k) else s.2 27 j := by
  simp [en2, cp2, cp1, ua_2]
theorem en2_28 : (en2 s k m c).2 28 j = if 80 * k ≤ j ∧ j < 80 * k + 80 then s.2 33 (j - 80 * k) else s.2 28 j := by
  simp [en2, cp2, cp1, ua_2]
theorem en2_29 : (en2 s k m c).2 29 j = if 240 * k ≤ j ∧ j < 240 * k + 240 then s.2 34 (j - 240 * k) else s.2 29 j := by
  simp [en2, cp2, cp1, ua_2]
theorem en2_o {f : Nat} (hf : f ≠ 25 ∧ f ≠ 26 ∧ f ≠ 27 ∧ f ≠ 28 ∧ f ≠ 29) : (en2 s k m c).2 f = s.2 f := by
  funext j
  simp [en2, cp2, cp1, ua_2, hf]
/-- what enU leaves as it was -/
theorem enU_e : eqx [24, 35] [25, 26, 27, 28, 29] s (enU s a) := by
  have h1 : eqx [24] [25, 26, 27, 28, 29] s (enS s) := by
    unfold enS
    split
    · refine eqx_us ⟨fun _ _ => rfl, fun f hf => ?_⟩ (by decide)
      funext j
      simp at hf
      show (if f = 29 ∧ 0 ≤ j ∧ j < 4560 then _ else if (f = 27 ∨ f = 28) ∧ 0 ≤ j ∧ j < 1520 then _ else if (f = 25 ∨ f = 26) ∧ 0 ≤ j ∧ j < 19 then _ else s.2 f j) = s.2 f j
      rw [if_neg (by omega), if_neg (by omega), if_neg (by omega)]
    · exact eqx.rf
  refine eqx_us (eqx_us ?_ (by decide)) (by decide)
  refine (h1.up (fun y q => by simp at q ⊢; omega) (fun y q => q)).tr ⟨fun _ _ => rfl, fun f hf => ?_⟩
  exact en2_o (by simp at hf; omega)
theorem KR_cg {so so' : Int → Int} {m c m' c' : Int} {rn rv rp rn' rv' rp' : Int → Int} {u : Snap} (h : KR so m c rn rv rp u) (hl : (fl u.1).length ≤ 60) (hm : m' = m) (hc : c' = c) (hs : ∀ x, x ∈ fl u.1 → so' x = so x) (h1 : ∀ k, 0 ≤ k → k < 60 → rn' k = rn k ∧ rv' k = rv k) (h2 : ∀ k, 0 ≤ k → k < 180 → rp' k = rp k) : KR so' m' c' rn' rv' rp' u := by
  obtain ⟨a1, a2, a3⟩ := h
  refine ⟨hm.trans a1, hc.trans a2, fun k x hk => ?_⟩
  obtain ⟨b1, b2, b3⟩ := a3 k x hk
  have hkl := (List.getElem?_eq_some_iff.mp hk).1
  obtain ⟨e1, e2⟩ := h1 k (by omega) (by omega)
  refine ⟨e1.trans b1, e2.trans b2, fun j j0 j1 => ?_⟩
  rw [hs x (List.mem_of_getElem? hk)] at j1
  have := pO_in (so x)
  rw [h2 _ (by omega) (by omega)]
  exact b3 j j0 j1
theorem KP_up {u : Snap} (h : KP s u) (h8 : s.1 8 ≤ w.1 8) (hs : ∀ x, 0 ≤ x → x < s.1 8 → w.2 9 x = s.2 9 x) : KP w u := by
  obtain ⟨⟨h1, h2, h3, h4⟩, h5, h6, h7, h9⟩ := h
  have e : ∀ x, x ∈ fl u.1 → w.2 9 x = s.2 9 x := fun x hx => by
    have := (AT_mem u.1 h1 x hx).1
    exact hs x this.1 this.2
  refine ⟨⟨AT_ag h8 h1 h3 (fun x hx => ⟨e x hx, rfl, rfl, fun _ _ _ => rfl⟩), ?_, h3, h4⟩, h5, h6, h7, fun x hx => by rw [e x hx]; exact h9 x hx⟩
  unfold full
  rw [e _ (hd_mem _ h1)]
  exact h2
theorem KL_up {K : List Snap} (h : KL s K) (h8 : s.1 8 ≤ w.1 8) (hs : ∀ x, 0 ≤ x → x < s.1 8 → w.2 9 x = s.2 9 x) (h24 : w.1 24 = s.1 24) (hr : w.2 25 = s.2 25 ∧ w.2 26 = s.2 26 ∧ w.2 27 = s.2 27 ∧ w.2 28 = s.2 28 ∧ w.2 29 = s.2 29) : KL w K := by
  obtain ⟨h1, h2, h3⟩ := h
  obtain ⟨r1, r2, r3, r4, r5⟩ := hr
  refine ⟨h24.trans h1, h2, fun i u hi => ?_⟩
  obtain ⟨a1, a2⟩ := h3 i u hi
  refine ⟨KR_cg a1 a2.1.2.2.2 (by rw [r1]) (by rw [r2]) (fun x hx => ?_) (fun k _ _ => by rw [r3, r4]; exact ⟨rfl, rfl⟩) (fun k _ _ => by rw [r5]), KP_up a2 h8 hs⟩
  have := (AT_mem u.1 a2.1.1 x hx).1
  exact hs x this.1 this.2
theorem KL.x {K : List Snap} (h : KL s K) (h8 : s.1 8 ≤ 3000) (hx : SX [] [] s w) : KL w K :=
  KL_up h (by rw [hx.1 8 (by decide) (by decide)]; exact Int.le_refl _) (fun x x0 x1 => hx.2 9 (by decide) (by decide) x (by unfold scI; omega)) (hx.1 24 (by decide) (by decide))
    ⟨funext fun i => hx.2 25 (by decide) (by decide) i (by unfold scI; omega), funext fun i => hx.2 26 (by decide) (by decide) i (by unfold scI; omega), funext fun i => hx.2 27 (by decide) (by decide) i (by unfold scI; omega), funext fun i => hx.2 28 (by decide) (by decide) i (by unfold scI; omega), funext fun i => hx.2 29 (by decide) (by decide) i (by unfold scI; omega)⟩
theorem enU_K {K : List Snap} {u : Snap} (h : KL s K) (hA : AH s u) (hP : KP s u) : KL (enU s a) (push K u) := by
  obtain ⟨h1, h2, h3⟩ := h
  have e9 : (enU s a).2 9 = s.2 9 := enU_e.2 9 (by decide)
  have e8 : (enU s a).1 8 = s.1 8 := enU_e.1 8 (by decide)
  have kp : ∀ v, KP s v → KP (enU s a) v := fun v hv => KP_up hv (by rw [e8]; exact Int.le_refl _) (fun x _ _ => by rw [e9])
  have q24 : (enU s a).1 24 = (enS s).1 24 + 1 := rfl
  have hl := hP.1.2.2.2
  have r25 : ∀ j, (enU s a).2 25 j = if j = (enS s).1 24 then s.1 30 else (enS s).2 25 j := fun j => en2_25 (s := enS s) (k := (enS s).1 24) (m := s.1 30) (c := s.1 31)
  have r26 : ∀ j, (enU s a).2 26 j = if j = (enS s).1 24 then s.1 31 else (enS s).2 26 j := fun j => en2_26 (s := enS s) (k := (enS s).1 24) (m := s.1 30) (c := s.1 31)
  have r27 : ∀ j, (enU s a).2 27 j = if 80 * (enS s).1 24 ≤ j ∧ j < 80 * (enS s).1 24 + 80 then (enS s).2 32 (j - 80 * (enS s).1 24) else (enS s).2 27 j := fun j => en2_27 (s := enS s) (k := (enS s).1 24) (m := s.1 30) (c := s.1 31)
  have r28 : ∀ j, (enU s a).2 28 j = if 80 * (enS s).1 24 ≤ j ∧ j < 80 * (enS s).1 24 + 80 then (enS s).2 33 (j - 80 * (enS s).1 24) else (enS s).2 28 j := fun j => en2_28 (s := enS s) (k := (enS s).1 24) (m := s.1 30) (c := s.1 31)
  have r29 : ∀ j, (enU s a).2 29 j = if 240 * (enS s).1 24 ≤ j ∧ j < 240 * (enS s).1 24 + 240 then (enS s).2 34 (j - 240 * (enS s).1 24) else (enS s).2 29 j := fun j => en2_29 (s := enS s) (k := (enS s).1 24) (m := s.1 30) (c := s.1 31)
  by_cases hk : K.length = 20
  · have c24 : s.1 24 = 20 := by omega
    have es : enS s = us (sh3 (sh2 (sh1 s 19) 1520) 4560) 24 19 := if_pos c24
    have x24 : (enS s).1 24 = 19 := by rw [es]; rfl
    have x32 : (enS s).2 32 = s.2 32 := by rw [es]; funext j; simp [us_2, sh3, sh2, sh1]
    have x33 : (enS s).2 33 = s.2 33 := by rw [es]; funext j; simp [us_2, sh3, sh2, sh1]
    have x34 : (enS s).2 34 = s.2 34 := by rw [es]; funext j; simp [us_2, sh3, sh2, sh1]
    have x25 : ∀ j, 0 ≤ j → j < 19 → (enS s).2 25 j = s.2 25 (j + 1) := fun j _ _ => by rw [es]; simp [us_2, sh3, sh2, sh1]; omega
    have x26 : ∀ j, 0 ≤ j → j < 19 → (enS s).2 26 j = s.2 26 (j + 1) := fun j _ _ => by rw [es]; simp [us_2, sh3, sh2, sh1]; omega
    have x27 : ∀ j, 0 ≤ j → j < 1520 → (enS s).2 27 j = s.2 27 (j + 80) := fun j _ _ => by rw [es]; simp [us_2, sh3, sh2, sh1]; omega
    have x28 : ∀ j, 0 ≤ j → j < 1520 → (enS s).2 28 j = s.2 28 (j + 80) := fun j _ _ => by rw [es]; simp [us_2, sh3, sh2, sh1]; omega
    have x29 : ∀ j, 0 ≤ j → j < 4560 → (enS s).2 29 j = s.2 29 (j + 240) := fun j _ _ => by rw [es]; simp [us_2, sh3, sh2, sh1]; omega
    rw [x24] at r25 r26 r27 r28 r29 q24
    rw [x32] at r27
    rw [x33] at r28
    rw [x34] at r29
    have hp : push K u = K.tail ++ [u] := by unfold push; rw [if_pos hk]
    rw [hp]
    have ht : K.tail.length = 19 := by simp [hk]
    refine ⟨by rw [q24]; simp [hk], by simp [hk], fun i v hi => ?_⟩
    rw [e9]
    by_cases hi2 : i < 19
    · rw [List.getElem?_append_left (by omega), List.getElem?_tail] at hi
      obtain ⟨a1, a2⟩ := h3 (i + 1) v hi
      refine ⟨KR_cg a1 a2.1.2.2.2 ?_ ?_ (fun x _ => rfl) (fun k k0 k1 => ⟨?_, ?_⟩) (fun k k0 k1 => ?_), kp v a2⟩
      · rw [r25, if_neg (by omega), x25 _ (by omega) (by omega)]; rfl
      · rw [r26, if_neg (by omega), x26 _ (by omega) (by omega)]; rfl
      · show (enU s a).2 27 (80 * i + k) = s.2 27 (80 * ((i + 1 : Nat) : Int) + k)
        rw [r27, if_neg (by omega), x27 _ (by omega) (by omega), show (80 * (i : Int) + k + 80) = 80 * ((i + 1 : Nat) : Int) + k by omega]
      · show (enU s a).2 28 (80 * i + k) = s.2 28 (80 * ((i + 1 : Nat) : Int) + k)
        rw [r28, if_neg (by omega), x28 _ (by omega) (by omega), show (80 * (i : Int) + k + 80) = 80 * ((i + 1 : Nat) : Int) + k by omega]
      · show (enU s a).2 29 (240 * i + k) = s.2 29 (240 * ((i + 1 : Nat) : Int) + k)
        rw [r29, if_neg (by omega), x29 _ (by omega) (by omega), show (240 * (i : Int) + k + 240) = 240 * ((i + 1 : Nat) : Int) + k by omega]
    · have hi3 : i = 19 := by
        have := (List.getElem?_eq_some_iff.mp hi).1
        simp [hk] at this
        omega
      subst hi3
      rw [List.getElem?_append_right (by omega)] at hi
      simp [hk] at hi
      subst hi
      refine ⟨KR_cg hA hl ?_ ?_ (fun x _ => rfl) (fun k k0 k1 => ⟨?_, ?_⟩) (fun k k0 k1 => ?_), kp u hP⟩
      · rw [r25, if_pos (by omega)]
      · rw [r26, if_pos (by omega)]
      · show (enU s a).2 27 (80 * ((19 : Nat) : Int) + k) = s.2 32 k
        rw [r27, if_pos (by omega), show (80 * ((19 : Nat) : Int) + k - 80 * 19) = k by omega]
      · show (enU s a).2 28 (80 * ((19 : Nat) : Int) + k) = s.2 33 k
        rw [r28, if_pos (by omega), show (80 * ((19 : Nat) : Int) + k - 80 * 19) = k by omega]
      · show (enU s a).2 29 (240 * ((19 : Nat) : Int) + k) = s.2 34 k
        rw [r29, if_pos (by omega), show (240 * ((19 : Nat) : Int) + k - 240 * 19) = k by omega]
  · have es : enS s = s := if_neg (by omega)
    rw [es] at r25 r26 r27 r28 r29 q24
    have hp : push K u = K ++ [u] := by unfold push; rw [if_neg hk]
    rw [hp]
    refine ⟨by rw [q24, h1]; simp, by simp; omega, fun i v hi => ?_⟩
    rw [e9]
    by_cases hi2 : i < K.length
    · rw [List.getElem?_append_left hi2] at hi
      obtain ⟨a1, a2⟩ := h3 i v hi
      refine ⟨KR_cg a1 a2.1.2.2.2 ?_ ?_ (fun x _ => rfl) (fun k k0 k1 => ⟨?_, ?_⟩) (fun k k0 k1 => ?_), kp v a2⟩
      · rw [r25, if_neg (by omega)]
      · rw [r26, if_neg (by omega)]
      · exact (r27 _).trans (if_neg (by omega))
      · exact (r28 _).trans (if_neg (by omega))
      · exact (r29 _).trans (if_neg (by omega))
    · have hi3 : i = K.length := by
        have := (List.getElem?_eq_some_iff.mp hi).1
        simp at this
        omega
      subst hi3
      rw [List.getElem?_append_right (by omega)] at hi
      simp at hi
      subst hi
      refine ⟨KR_cg hA hl ?_ ?_ (fun x _ => rfl) (fun k k0 k1 => ⟨?_, ?_⟩) (fun k k0 k1 => ?_), kp u hP⟩
      · rw [r25, if_pos (by omega)]
      · rw [r26, if_pos (by omega)]
      · refine (r27 _).trans ?_
        rw [if_pos (by omega), show (80 * (K.length : Int) + k - 80 * s.1 24) = k by omega]
      · refine (r28 _).trans ?_
        rw [if_pos (by omega), show (80 * (K.length : Int) + k - 80 * s.1 24) = k by omega]
      · refine (r29 _).trans ?_
        rw [if_pos (by omega), show (240 * (K.length : Int) + k - 240 * s.1 24) = k by omega]
end
end
section
/-! A piece of the tree is changed: what the rows hold behind it. -/
noncomputable def rpT (x : Int) (u t : Term) : Term := if hd t = x then u else rp x u t
/-- the cells of some nodes are as they were -/
def OLD (P : Int → Prop) (s w : SM) : Prop := ∀ y, P y → (w.2 9 y = s.2 9 y ∧ w.2 10 y = s.2 10 y ∧ w.2 11 y = s.2 11 y) ∧ (w.2 12 y = s.2 12 y ∧ w.2 13 y = s.2 13 y) ∧ ∀ i, 0 ≤ i → i < 3 → w.2 14 (3 * y + i) = s.2 14 (3 * y + i)
theorem OLD.rf {P : Int → Prop} {s : SM} : OLD P s s := fun _ _ => ⟨⟨rfl, rfl, rfl⟩, ⟨rfl, rfl⟩, fun _ _ _ => rfl⟩
theorem OLD.tr {P : Int → Prop} {s w v : SM} (h1 : OLD P s w) (h2 : OLD P w v) : OLD P s v := fun y hy => by
  obtain ⟨⟨a1, a2, a3⟩, ⟨a4, a5⟩, a6⟩ := h1 y hy
  obtain ⟨⟨b1, b2, b3⟩, ⟨b4, b5⟩, b6⟩ := h2 y hy
  exact ⟨⟨b1.trans a1, b2.trans a2, b3.trans a3⟩, ⟨b4.trans a4, b5.trans a5⟩, fun i i0 i3 => (b6 i i0 i3).trans (a6 i i0 i3)⟩
theorem OLD.mo {P P' : Int → Prop} {s w : SM} (h : OLD P s w) (hp : ∀ y, P' y → P y) : OLD P' s w := fun y hy => h y (hp y hy)
theorem rpT_fl {so pa up pl : Int → Int} {B c : Int} {t : Term} (h : AT so pa up pl B t) (hnd : (fl t).Nodup) (hc : c ∈ fl t) : ∃ a z : List Int, fl t = a ++ (fl (sq c t) ++ z) ∧ (∀ u, fl (rpT c u t) = a ++ (fl u ++ z)) ∧ (c ≠ hd t → hd t ∈ a) := by
  by_cases e : hd t = c
  · refine ⟨[], [], ?_, fun u => ?_, fun q => absurd e.symm q⟩
    · unfold sq; rw [if_pos e]; simp
    · unfold rpT; rw [if_pos e]; simp
  · obtain ⟨a, z, ha, h1, h2⟩ := rp_fl t h hnd hc (Ne.symm e)
    refine ⟨a, z, ?_, fun u => ?_, fun _ => ?_⟩
    · unfold sq; rw [if_neg e]; exact h1
    · unfold rpT; rw [if_neg e]; exact h2 u
    · obtain ⟨r, er⟩ := fl_hd t h
      rw [er] at h1
      cases a with
      | nil => exact absurd rfl ha
      | cons y a =>
        rw [List.cons_append] at h1
        rw [(List.cons.inj h1).1]
        exact List.mem_cons_self ..
theorem SHT_rp {s w : SM} {t u : Term} {c : Int} (h : SHT s t) (hc : c ∈ fl t) (hB : s.1 8 ≤ w.1 8 ∧ w.1 8 ≤ 3000) (hu : ATs w u) (hf : full (w.2 9) u) (hnd : (fl u).Nodup) (hdis : ∀ y, y ∈ fl u → y ∈ fl t → y ∈ fl (sq c t))
    (hs : ∀ y, y ∈ fl t → y ∉ fl (sq c t) → w.2 9 y = s.2 9 y ∧ w.2 12 y = s.2 12 y ∧ w.2 13 y = s.2 13 y ∧ ∀ i, 0 ≤ i → i < 3 → 3 * y + i ≠ 3 * s.2 12 c + s.2 13 c → w.2 14 (3 * y + i) = s.2 14 (3 * y + i))
    (hup : w.2 12 (hd u) = s.2 12 c ∧ w.2 13 (hd u) = s.2 13 c) (hpa : c ≠ hd t → w.2 14 (3 * s.2 12 c + s.2 13 c) = hd u) (htop : w.1 15 = if c = hd t then hd u else s.1 15) (hlen : (fl (rpT c u t)).length ≤ 60) : SHT w (rpT c u t) := by
  obtain ⟨h1, h2, h3, h4, h5, h6, h7, h8⟩ := h
  have hnd2 : (fl (rpT c u t)).Nodup := by
    obtain ⟨a, z, e1, e2, -⟩ := rpT_fl h1 h3 hc
    rw [e2]
    rw [e1] at h3
    obtain ⟨n1, n2, n3⟩ := List.nodup_append.mp h3
    obtain ⟨n4, n5, n6⟩ := List.nodup_append.mp n2
    refine List.nodup_append.mpr ⟨n1, List.nodup_append.mpr ⟨hnd, n5, fun x hx y hy e => ?_⟩, fun x hx y hy e => ?_⟩
    · subst e
      have := hdis x hx (by rw [e1]; simp [hy])
      exact n6 x this x hy rfl
    · subst e
      rcases List.mem_append.mp hy with hy | hy
      · have := hdis x hy (by rw [e1]; simp [hx])
        exact n3 x hx x (List.mem_append_left _ this) rfl
      · exact n3 x hx x (List.mem_append_right _ hy) rfl
  by_cases e : hd t = c
  · have er : rpT c u t = u := if_pos e
    rw [er] at hnd2 hlen ⊢
    rw [if_pos e.symm] at htop
    rw [← e, h7, h8] at hup
    exact ⟨hu, hf, hnd2, hlen, ⟨by omega, hB.2⟩, htop.symm, hup.1, hup.2⟩
  · have er : rpT c u t = rp c u t := if_neg e
    have es : sq c t = sb c t := if_neg e
    rw [es] at hs hdis
    rw [er] at hnd2 hlen ⊢
    rw [if_neg (Ne.symm e)] at htop
    obtain ⟨q1, q2⟩ := rp_hd (x := c) (u := u) t
    obtain ⟨b1, b2, b3, b4, b5, b6⟩ := sb_ok t h1 h3 hc (Ne.symm e)
    have ht := hd_mem t h1
    have hst := hs _ ht b5
    refine ⟨AT_rp hB.1 hu hf t h1 h3 hc (Ne.symm e) (fun y hy hn => ⟨(hs y hy hn).1, fun i i0 i1 _ ne => (hs y hy hn).2.2.2 i i0 (by have := pO_in (s.2 9 y); omega) ne⟩) (fun y hy hn _ => ⟨(hs y hy hn).2.1, (hs y hy hn).2.2.1⟩) (hpa (Ne.symm e)) hup.1 hup.2, ?_, hnd2, hlen, ⟨by omega, hB.2⟩, ?_, ?_, ?_⟩
    · unfold full
      rw [q1, q2, hst.1]
      exact h2
    · rw [q1, htop]; exact h6
    · rw [q1, hst.2.1]; exact h7
    · rw [q1, hst.2.2.1]; exact h8
/-! congruences -/
section
variable {ey ef : List Nat} {s w : SM}
theorem partU_x {b i c : Int} (h : SX ey ef s w) : SX ey ef (partU s b i c) (partU w b i c) := h.ua.ua.ua
theorem setU_x {b so v k : Int} (h : SX ey ef s w) : SX ey ef (setU s b so v k) (setU w b so v k) := h.ua.ua.ua
theorem bornU_x {so v k : Int} (h : SX ey ef s w) (hy : 8 ∉ ey) : SX ey ef (bornU s so v k) (bornU w so v k) := by
  unfold bornU
  rw [h.1 8 (by decide) hy]
  exact setU_x h.us
theorem replU_x {o c : Int} (h : SX ey ef s w) (ho : o < 3000) (hf : 12 ∉ ef ∧ 13 ∉ ef) : SX ey ef (replU s o c) (replU w o c) := by
  unfold replU
  rw [h.2 12 (by decide) hf.1 o (by unfold scI; omega), h.2 13 (by decide) hf.2 o (by unfold scI; omega)]
  split
  · exact h.us.ua.ua
  · exact partU_x h
theorem bornU_8 {so v k : Int} : (bornU s so v k).1 8 = s.1 8 + 1 := rfl
theorem bornU_o {so v k : Int} : OLD (fun y => y < s.1 8) s (bornU s so v k) := fun y hy => by
  have hy : y < s.1 8 := hy
  simp only [bornU, setU, ua_2, us_2]
  refine ⟨⟨?_, ?_, ?_⟩, ⟨?_, ?_⟩, fun i _ _ => ?_⟩
  · rw [if_neg (by omega), if_neg (by omega), if_neg (by omega)]
  · rw [if_neg (by omega), if_neg (by omega), if_neg (by omega)]
  · rw [if_neg (by omega), if_neg (by omega), if_neg (by omega)]
  · rw [if_neg (by omega), if_neg (by omega), if_neg (by omega)]
  · rw [if_neg (by omega), if_neg (by omega), if_neg (by omega)]
  · rw [if_neg (by omega), if_neg (by omega), if_neg (by omega)]
theorem bornU_at {so v k : Int} : (bornU s so v k).2 9 (s.1 8) = so ∧ (bornU s so v k).2 10 (s.1 8) = nvl so v ∧ (bornU s so v k).2 11 (s.1 8) = kvl so k := by
  simp [bornU, setU, ua_2, us_2]
theorem bornU_e {so v k : Int} : eqx [8] [9, 10, 11] s (bornU s so v k) := eqx_ua (eqx_ua (eqx_ua (eqx_us eqx.rf (by decide)) (by decide)) (by decide)) (by decide)
theorem partU_e {b i c : Int} : eqx [] [12, 13, 14] s (partU s b i c) := eqx_ua (eqx_ua (eqx_ua eqx.rf (by decide)) (by decide)) (by decide)
theorem replU_e {o c : Int} : eqx [15] [12, 13, 14] s (replU s o c) := by
  unfold replU
  split
  · exact eqx_ua (eqx_ua (eqx_us eqx.rf (by decide)) (by decide)) (by decide)
  · exact partU_e.up (fun _ q => by cases q) (fun _ q => q)
theorem partU_at {b i c : Int} : (partU s b i c).2 14 (3 * b + i) = c ∧ (partU s b i c).2 12 c = b ∧ (partU s b i c).2 13 c = i := by
  simp [partU, ua_2]
theorem partU_o {b i c : Int} (hi : 0 ≤ i ∧ i < 3) : OLD (fun y => y ≠ b ∧ y ≠ c) s (partU s b i c) := fun y hy => by
  obtain ⟨hb, hc⟩ := hy
  simp only [partU, ua_2]
  refine ⟨⟨?_, ?_, ?_⟩, ⟨?_, ?_⟩, fun j _ _ => ?_⟩
  · rw [if_neg (by omega), if_neg (by omega), if_neg (by omega)]
  · rw [if_neg (by omega), if_neg (by omega), if_neg (by omega)]
  · rw [if_neg (by omega), if_neg (by omega), if_neg (by omega)]
  · rw [if_neg (by omega), if_neg (by omega), if_neg (by omega)]
  · rw [if_neg (by omega), if_neg (by omega), if_neg (by omega)]
  · rw [if_neg (by omega), if_neg (by omega), if_neg (by omega)]
end
/-- a hole more as a part -/
def hlU (b i : Int) (s : SM) : SM := partU (bornU s 0 (-9) (-9)) b i (s.1 8)
def hlsU (b : Int) : Nat → Int → SM → SM
  | 0, _, s => s
  | m + 1, i, s => hlsU b m (i + 1) (hlU b i s)
def adds : Nat → Nat → Term → Term
  | 0, _, u => u
  | m + 1, B, u => adds m (B + 1) (.add u (.index B))
theorem adds_fl : ∀ (m B : Nat) (u : Term), fl (adds m B u) = fl u ++ (List.range' B m).map Int.ofNat := by
  intro m
  induction m with
  | zero => intro B u; simp [adds]
  | succ m ih =>
    intro B u
    show fl (adds m (B + 1) (.add u (.index B))) = _
    rw [ih, List.range'_succ]
    show (fl u ++ [(B : Int)]) ++ _ = _
    simp
theorem adds_hd : ∀ (m B : Nat) (u : Term), hd (adds m B u) = hd u ∧ na (adds m B u) = na u + m := by
  intro m
  induction m with
  | zero => intro B u; exact ⟨rfl, by show na u = na u + ((0 : Nat) : Int); omega⟩
  | succ m ih =>
    intro B u
    obtain ⟨h1, h2⟩ := ih (B + 1) (.add u (.index B))
    refine ⟨h1, h2.trans ?_⟩
    show na u + 1 + (m : Int) = na u + ((m + 1 : Nat) : Int)
    omega
theorem hlU_8 {b i : Int} {s : SM} : (hlU b i s).1 8 = s.1 8 + 1 := rfl
theorem hlU_x {ey ef : List Nat} {s w : SM} {b i : Int} (h : SX ey ef s w) (hy : 8 ∉ ey) : SX ey ef (hlU b i s) (hlU b i w) := by
  unfold hlU
  rw [h.1 8 (by decide) hy]
  exact partU_x (bornU_x h hy)
theorem hlU_e {b i : Int} {s : SM} : eqx [8] [9, 10, 11, 12, 13, 14] s (hlU b i s) := (bornU_e.up (fun _ q => q) (fun y q => by simp at q ⊢; omega)).tr (partU_e.up (fun _ q => by cases q) (fun y q => by simp at q ⊢; omega))
theorem hlU_o {b i : Int} {s : SM} (hi : 0 ≤ i ∧ i < 3) : OLD (fun y => y < s.1 8 ∧ y ≠ b) s (hlU b i s) :=
  (bornU_o.mo (fun y q => q.1)).tr ((partU_o hi).mo (fun y q => ⟨q.2, by have := q.1; omega⟩))
theorem hlU_b {b i : Int} {s : SM} (hb : b < s.1 8) : (hlU b i s).2 9 b = s.2 9 b ∧ (hlU b i s).2 10 b = s.2 10 b ∧ (hlU b i s).2 11 b = s.2 11 b ∧ (hlU b i s).2 12 b = s.2 12 b ∧ (hlU b i s).2 13 b = s.2 13 b ∧ ∀ j, j ≠ i → (hlU b i s).2 14 (3 * b + j) = s.2 14 (3 * b + j) := by
  simp only [hlU, partU, bornU, setU, ua_2, us_2]
  refine ⟨?_, ?_, ?_, ?_, ?_, fun j hj => ?_⟩
  · rw [if_neg (by omega), if_neg (by omega), if_neg (by omega), if_neg (by omega), if_neg (by omega), if_neg (by omega)]
  · rw [if_neg (by omega), if_neg (by omega), if_neg (by omega), if_neg (by omega), if_neg (by omega), if_neg (by omega)]
  · rw [if_neg (by omega), if_neg (by omega), if_neg (by omega), if_neg (by omega), if_neg (by omega), if_neg (by omega)]
  · rw [if_neg (by omega), if_neg (by omega), if_neg (by omega), if_neg (by omega), if_neg (by omega), if_neg (by omega)]
  · rw [if_neg (by omega), if_neg (by omega), if_neg (by omega), if_neg (by omega), if_neg (by omega), if_neg (by omega)]
  · rw [if_neg (by omega), if_neg (by omega), if_neg (by omega), if_neg (by omega), if_neg (by omega), if_neg (by omega)]
theorem hlU_AT {b i : Int} {s : SM} {u : Term} (h : ATs s u) (hnd : (fl u).Nodup) (hb : hd u = b) (hi : na u = i) (hp : i < pO (s.2 9 b)) (h8 : 0 ≤ s.1 8) : ATs (hlU b i s) (.add u (.index (s.1 8).toNat)) ∧ (fl (Term.add u (.index (s.1 8).toNat))).Nodup := by
  have hlt := fun x hx => (AT_mem u h x hx).1
  have hbl := hlt b (by rw [← hb]; exact hd_mem u h)
  have hpo := pO_in (s.2 9 b)
  have hn := na_ge u
  have hO := hlU_o (b := b) (i := i) (s := s) (by omega)
  have hB := hlU_b (i := i) hbl.2
  have e8 : (((s.1 8).toNat : Nat) : Int) = s.1 8 := by omega
  obtain ⟨p1, p2, p3⟩ := partU_at (s := bornU s 0 (-9) (-9)) (b := b) (i := i) (c := s.1 8)
  have so8 : (hlU b i s).2 9 (s.1 8) = 0 := by
    show (partU (bornU s 0 (-9) (-9)) b i (s.1 8)).2 9 (s.1 8) = 0
    rw [partU_e.2 9 (by decide)]
    exact bornU_at.1
  refine ⟨⟨?_, ⟨?_, ?_⟩, ?_, ?_, ?_, ?_, ?_⟩, ?_⟩
  · refine AT_cg (by show s.1 8 ≤ s.1 8 + 1; omega) u h hnd (fun x hx => ?_) (fun x hx hne => ?_)
    · by_cases e : x = b
      · subst e
        exact ⟨hB.1, fun j j0 j1 j2 => hB.2.2.2.2.2 j (by have := j2 hb.symm; omega)⟩
      · have := hO x ⟨(hlt x hx).2, e⟩
        exact ⟨this.1.1, fun j j0 j1 _ => this.2.2 j j0 (by have := pO_in (s.2 9 x); omega)⟩
    · have := hO x ⟨(hlt x hx).2, by rw [← hb]; exact hne⟩
      exact this.2.1
  · rw [e8]; show s.1 8 < s.1 8 + 1; omega
  · rw [e8, so8]; decide
  · show na (Term.index (s.1 8).toNat) = pO ((hlU b i s).2 9 (hd (Term.index (s.1 8).toNat)))
    rw [show hd (Term.index (s.1 8).toNat) = s.1 8 from e8, so8]
    rfl
  · rw [hb, hB.1, hi]; exact hp
  · rw [hb, hi, show hd (Term.index (s.1 8).toNat) = s.1 8 from e8]; exact p1
  · rw [hb, show hd (Term.index (s.1 8).toNat) = s.1 8 from e8]; exact p2
  · rw [hi, show hd (Term.index (s.1 8).toNat) = s.1 8 from e8]; exact p3
  · refine List.nodup_append.mpr ⟨hnd, by simp [fl], fun x hx y hy e => ?_⟩
    have := List.mem_singleton.mp hy
    have := hlt x hx
    omega
theorem hlsU_ok {b : Int} : ∀ (m : Nat) (i : Int) (s : SM) (u : Term), ATs s u → (fl u).Nodup → hd u = b → na u = i → i + m = pO (s.2 9 b) → 0 ≤ s.1 8 → ATs (hlsU b m i s) (adds m (s.1 8).toNat u) ∧ (fl (adds m (s.1 8).toNat u)).Nodup ∧ (hlsU b m i s).1 8 = s.1 8 + m ∧ OLD (fun y => y < s.1 8 ∧ y ≠ b) s (hlsU b m i s) ∧ eqx [8] [9, 10, 11, 12, 13, 14] s (hlsU b m i s) ∧
    ((hlsU b m i s).2 9 b = s.2 9 b ∧ (hlsU b m i s).2 10 b = s.2 10 b ∧ (hlsU b m i s).2 11 b = s.2 11 b ∧ (hlsU b m i s).2 12 b = s.2 12 b ∧ (hlsU b m i s).2 13 b = s.2 13 b) ∧ ∀ y, s.1 8 ≤ y → y < s.1 8 + m → (hlsU b m i s).2 9 y = 0 ∧ (hlsU b m i s).2 10 y = -9 ∧ (hlsU b m i s).2 11 y = -9 := by
  intro m
  induction m with
  | zero => intro i s u h1 h2 h3 h4 h5 h6; exact ⟨h1, h2, by show s.1 8 = s.1 8 + ((0 : Nat) : Int); omega, OLD.rf, eqx.rf, ⟨rfl, rfl, rfl, rfl, rfl⟩, fun y a b => by omega⟩
  | succ m ih =>
    intro i s u h1 h2 h3 h4 h5 h6
    have hlt := (AT_mem u h1 _ (hd_mem u h1)).1
    have hbl : b < s.1 8 := by rw [← h3]; exact hlt.2
    have hpo := pO_in (s.2 9 b)
    have hn := na_ge u
    obtain ⟨a1, a2⟩ := hlU_AT h1 h2 h3 h4 (by omega) h6
    have hB := hlU_b (i := i) hbl
    have hO := hlU_o (b := b) (i := i) (s := s) (by omega)
    obtain ⟨b1, b2, b3, b4, b5, b6, b7⟩ := ih (i + 1) (hlU b i s) _ a1 a2 h3 (by show na u + 1 = i + 1; omega) (by rw [hB.1]; omega) (by show 0 ≤ s.1 8 + 1; omega)
    have e8 : ((hlU b i s).1 8).toNat = (s.1 8).toNat + 1 := by show (s.1 8 + 1).toNat = _; omega
    have n8 : (hlU b i s).1 8 = s.1 8 + 1 := rfl
    rw [e8] at b1 b2
    refine ⟨b1, b2, ?_, ?_, hlU_e.tr b5, ?_, fun y y0 y1 => ?_⟩
    · show (hlsU b m (i + 1) (hlU b i s)).1 8 = _
      rw [b3, n8]; omega
    · exact hO.tr (b4.mo (fun y q => ⟨by rw [n8]; have := q.1; omega, q.2⟩))
    · exact ⟨b6.1.trans hB.1, b6.2.1.trans hB.2.1, b6.2.2.1.trans hB.2.2.1, b6.2.2.2.1.trans hB.2.2.2.1, b6.2.2.2.2.trans hB.2.2.2.2.1⟩
    · by_cases e : y = s.1 8
      · subst e
        obtain ⟨⟨c1, c2, c3⟩, -⟩ := b4 (s.1 8) ⟨by rw [n8]; omega, by omega⟩
        obtain ⟨d1, d2, d3⟩ := bornU_at (s := s) (so := 0) (v := -9) (k := -9)
        refine ⟨c1.trans ?_, c2.trans ?_, c3.trans ?_⟩
        · show (partU (bornU s 0 (-9) (-9)) b i (s.1 8)).2 9 (s.1 8) = 0
          rw [partU_e.2 9 (by decide)]; exact d1
        · show (partU (bornU s 0 (-9) (-9)) b i (s.1 8)).2 10 (s.1 8) = -9
          rw [partU_e.2 10 (by decide)]; exact d2
        · show (partU (bornU s 0 (-9) (-9)) b i (s.1 8)).2 11 (s.1 8) = -9
          rw [partU_e.2 11 (by decide)]; exact d3
      · exact b7 y (by rw [n8]; omega) (by rw [n8]; omega)
theorem hlsU_x {ey ef : List Nat} {b : Int} (hy : 8 ∉ ey) : ∀ (m : Nat) (i : Int) (s w : SM), SX ey ef s w → SX ey ef (hlsU b m i s) (hlsU b m i w) := by
  intro m
  induction m with
  | zero => intro i s w h; exact h
  | succ m ih => intro i s w h; exact ih (i + 1) _ _ (hlU_x h hy)
end
section
/-! Acts: what ends each of them; put, take, unwrap, write. -/
theorem replU_in {s s1 : SM} {t : Term} {c b : Int} (h : SHT s t) (hc : c ∈ fl t) (e12 : s1.2 12 c = s.2 12 c) (e13 : s1.2 13 c = s.2 13 c) : ((replU s1 c b).2 12 b = s.2 12 c ∧ (replU s1 c b).2 13 b = s.2 13 c) ∧ (c ≠ hd t → (replU s1 c b).2 14 (3 * s.2 12 c + s.2 13 c) = b) ∧ ((replU s1 c b).1 15 = if c = hd t then b else s1.1 15) ∧ (∀ y, y ≠ b → (replU s1 c b).2 12 y = s1.2 12 y ∧ (replU s1 c b).2 13 y = s1.2 13 y) ∧ (∀ j, j ≠ 3 * s.2 12 c + s.2 13 c → (replU s1 c b).2 14 j = s1.2 14 j) := by
  unfold replU
  rw [e12, e13]
  by_cases e : s.2 12 c = -9
  · have et : c = hd t := Classical.byContradiction fun q => by
      have := h.lt ((AT_mem t h.1 c hc).2.2.2 q).1
      omega
    rw [if_pos e]
    refine ⟨⟨?_, ?_⟩, fun q => absurd et q, ?_, fun y hy => ⟨?_, ?_⟩, fun j hj => ?_⟩
    · simp [ua_2, us_2, e]
    · subst et
      simp [ua_2, us_2, h.2.2.2.2.2.2.2]
    · rw [if_pos et]
      rfl
    · simp [ua_2, us_2, hy]
    · simp [ua_2, us_2, hy]
    · simp [ua_2, us_2]
  · have et : c ≠ hd t := fun q => e (by rw [q]; exact h.2.2.2.2.2.2.1)
    rw [if_neg e]
    refine ⟨⟨?_, ?_⟩, fun _ => ?_, ?_, fun y hy => ⟨?_, ?_⟩, fun j hj => ?_⟩
    · simp [partU, ua_2]
    · simp [partU, ua_2]
    · simp [partU, ua_2]
    · rw [if_neg et]
      rfl
    · simp [partU, ua_2, hy]
    · simp [partU, ua_2, hy]
    · simp [partU, ua_2, hj]
/-- a part's node does not bear what it hangs on -/
theorem sb_up {so pa up pl : Int → Int} {B x : Int} : ∀ (t : Term), AT so pa up pl B t → (fl t).Nodup → x ∈ fl t → x ≠ hd t → up x ∉ fl (sb x t) := by
  intro t
  induction t with
  | index n => intro _ _ hx hn; exact absurd (List.mem_singleton.mp hx) hn
  | add t y ih ihy =>
    intro h hnd hx hn
    obtain ⟨h1, h2, h3, h4, h5, h6, h7⟩ := h
    obtain ⟨d1, d2, d3⟩ := List.nodup_append.mp hnd
    by_cases e : hd y = x
    · rw [show sb x (Term.add t y) = y from if_pos e, ← e, h6]
      exact fun q => d3 _ (hd_mem t h1) _ q rfl
    · by_cases q : x ∈ fl y
      · rw [show sb x (Term.add t y) = sb x y from by show (if hd y = x then y else if x ∈ fl y then sb x y else sb x t) = _; rw [if_neg e, if_pos q]]
        exact ihy h2 d2 q (Ne.symm e)
      · rw [show sb x (Term.add t y) = sb x t from by show (if hd y = x then y else if x ∈ fl y then sb x y else sb x t) = _; rw [if_neg e, if_neg q]]
        exact ih h1 d1 ((List.mem_append.mp hx).resolve_right q) hn
  | _ => intro h; exact h.elim
theorem sq_up {s : SM} {t : Term} {c : Int} (h : SHT s t) (hc : c ∈ fl t) : s.2 12 c ∉ fl (sq c t) := by
  unfold sq
  by_cases e : hd t = c
  · rw [if_pos e, ← e, h.2.2.2.2.2.2.1]
    intro q
    have := h.lt q
    omega
  · rw [if_neg e]
    exact sb_up t h.1 h.2.2.1 hc (Ne.symm e)
/-- part i -/
def prt (i : Int) : Term → Term
  | .add t x => if na t = i then x else prt i t
  | t => t
theorem prt_ok {so pa up pl : Int → Int} {B i : Int} : ∀ (t : Term), AT so pa up pl B t → (fl t).Nodup → 0 ≤ i → i < na t → AT so pa up pl B (prt i t) ∧ full so (prt i t) ∧ hd (prt i t) = pa (3 * hd t + i) ∧ (∀ y, y ∈ fl (prt i t) → y ∈ fl t) ∧ hd t ∉ fl (prt i t) ∧ (fl (prt i t)).Nodup ∧ (fl (prt i t)).length + 1 ≤ (fl t).length ∧ up (hd (prt i t)) = hd t ∧ pl (hd (prt i t)) = i := by
  intro t
  induction t with
  | index n => intro _ _ h0 h1; have h1 : i < 0 := h1; omega
  | add t x ih _ =>
    intro h hnd h0 h1
    obtain ⟨a1, a2, a3, a4, a5, a6, a7⟩ := h
    obtain ⟨d1, d2, d3⟩ := List.nodup_append.mp hnd
    have h1 : i < na t + 1 := h1
    have ht := hd_mem t a1
    have hl : (fl (Term.add t x)).length = (fl t).length + (fl x).length := by show (fl t ++ fl x).length = _; simp
    have hp : 0 < (fl t).length := List.length_pos_of_mem ht
    unfold prt
    by_cases e : na t = i
    · rw [if_pos e]
      refine ⟨a2, a3, by show hd x = pa (3 * hd t + i); rw [← e, a5], fun y hy => List.mem_append_right _ hy, fun q => d3 _ ht _ q rfl, d2, by omega, a6, by rw [a7, e]⟩
    · rw [if_neg e]
      obtain ⟨b1, b2, b3, b4, b5, b6, b7, b8, b9⟩ := ih a1 d1 h0 (by omega)
      exact ⟨b1, b2, b3, fun y hy => List.mem_append_left _ (b4 y hy), b5, b6, by omega, b8, b9⟩
  | _ => intro h; exact h.elim
theorem KP_s {s : SM} {t : Term} (h : SHT s t) (hN : NB s) (hc : s.1 16 ∈ fl t) : KP s (t, s) :=
  ⟨⟨h.1, h.2.1, h.2.2.1, h.2.2.2.1⟩, hc, h.2.2.2.2.2.2.1, h.2.2.2.2.2.2.2, fun x hx => by
    have := h.lt hx
    have := hN x this.1 this.2.1
    exact ⟨this.2.1, this.2.2.1⟩⟩
section
variable {iv : List (Int × Int)} {L : Nat} {h0 : MH} {s : SM} {t : Term} {d : Nat}
/-- the end of an act -/
theorem act_end {x s' w : SM} {a : Int} {F : SM → Prop} {K : List Snap} (h : SHT s t) (hN : NB s) (hc : s.1 16 ∈ fl t) (hK : KL s K) (hw : eqx [18, 30, 31] [17, 32, 33, 34] s w) (hA : AH w (t, s)) (hx : eqx [8, 15, 16, 41] [9, 10, 11, 12, 13, 14, 36, 42] w x) (h8 : s.1 8 ≤ x.1 8) (h9 : ∀ y, 0 ≤ y → y < s.1 8 → x.2 9 y = s.2 9 y) (hS : SX [] [] s' x)
    (hF : ∀ v, SX [24] [25, 26, 27, 28, 29] (us s' 35 (chg (s.1 35) a)) v → KL v (push K (t, s)) → F v) : cm iv L h0 d 100 [vr 307, vi a] x (qv F) := by
  have e24 : x.1 24 = s.1 24 := (hx.1 24 (by decide)).trans (hw.1 24 (by decide))
  have e35 : x.1 35 = s.1 35 := (hx.1 35 (by decide)).trans (hw.1 35 (by decide))
  have hKx : KL x K := KL_up hK h8 h9 e24 ⟨(hx.2 25 (by decide)).trans (hw.2 25 (by decide)), (hx.2 26 (by decide)).trans (hw.2 26 (by decide)), (hx.2 27 (by decide)).trans (hw.2 27 (by decide)), (hx.2 28 (by decide)).trans (hw.2 28 (by decide)), (hx.2 29 (by decide)).trans (hw.2 29 (by decide))⟩
  have hPx : KP x (t, s) := KP_up (KP_s h hN hc) h8 h9
  have w9 : w.2 9 = s.2 9 := hw.2 9 (by decide)
  have hAx : AH x (t, s) := KR_cg hA h.2.2.2.1 (hx.1 30 (by decide)) (hx.1 31 (by decide)) (fun y hy => by
    have := h.lt hy
    rw [w9]
    exact h9 y this.1 this.2.1) (fun k _ _ => ⟨by rw [hx.2 32 (by decide)], by rw [hx.2 33 (by decide)]⟩) (fun k _ _ => by rw [hx.2 34 (by decide)])
  refine endAct_ok (by rw [e24, hK.1]; have := hK.2.1; omega) (hF _ ?_ (enU_K hKx hAx hPx))
  refine (hS.up (fun _ q => by cases q) (fun _ q => by cases q)).us.tr ⟨fun y a1 a2 => ?_, fun f a1 a2 i _ => ?_⟩
  · show (enU x a).1 y = if y = 35 then chg (s.1 35) a else x.1 y
    by_cases e : y = 35
    · subst e
      rw [if_pos rfl, ← e35]
      rfl
    · rw [if_neg e]
      exact enU_e.1 y (by simp at a2 ⊢; omega)
  · rw [enU_e.2 f a2]
    rfl
/-- write() -/
def wriA (s : SM) (v : Int) : Int := if s.2 9 (s.1 16) = 1 ∨ s.2 9 (s.1 16) = 2 ∨ s.2 9 (s.1 16) = 3 then (if (s.2 9 (s.1 16) = 2 ∧ ¬ (0 ≤ v ∧ v ≤ 1)) ∨ (s.2 9 (s.1 16) = 3 ∧ ¬ (0 ≤ v ∧ v ≤ 25)) then -1 else s.2 10 (s.1 16)) else -4
def wriOk (s : SM) (v : Int) : Prop := (s.2 9 (s.1 16) = 1 ∨ s.2 9 (s.1 16) = 2 ∨ s.2 9 (s.1 16) = 3) ∧ (s.2 9 (s.1 16) = 2 → 0 ≤ v ∧ v ≤ 1) ∧ (s.2 9 (s.1 16) = 3 → 0 ≤ v ∧ v ≤ 25)
/-- a done act: what is kept, and the mark that something changed -/
def DONE (s : SM) (t : Term) (K : List Snap) (a : Int) (s' v : SM) : Prop := SX [24] [25, 26, 27, 28, 29] (us s' 35 (chg (s.1 35) a)) v ∧ KL v (push K (t, s))
theorem write_ok {v : Int} {F : Int → SM → Prop} {K : List Snap} (h : SHT s t) (hN : NB s) (hc : s.1 16 ∈ fl t) (hK : KL s K) (hD : 100 ≤ d) (H1 : ¬ wriOk s v → F (wriA s v) s) (H2 : wriOk s v → ∀ w, DONE s t K 0 (ua s 10 (s.1 16) v) w → F (wriA s v) w) : cm iv L h0 d 110 [vr 307, vi v] s (qi F) := by
  obtain ⟨d, rfl⟩ : ∃ k, d = k + 1 := ⟨d - 1, by omega⟩
  have hlt := h.lt hc
  have good : wriOk s v → cm iv L h0 d 99 [vr 307] s (qv fun s2 => (0 ≤ s2.1 16 ∧ s2.1 16 < 3004) ∧ cm iv L h0 d 100 [vr 307, vi 0] (ua s2 10 (s2.1 16) v) (qv fun s4 => F (s2.2 10 (s2.1 16)) s4)) := fun g => by
    refine beginAct_ok h (by omega) (fun w w1 w2 w3 => ?_)
    have e16 : w.1 16 = s.1 16 := w1.1 16 (by decide)
    have e10 : w.2 10 = s.2 10 := w1.2 10 (by decide)
    rw [e16, e10]
    refine ⟨by omega, act_end (s' := ua s 10 (s.1 16) v) h hN hc hK w1 w3 (eqx_ua eqx.rf (by decide)) ?_ ?_ ?_ (fun u u1 u2 => ?_)⟩
    · show s.1 8 ≤ w.1 8
      rw [w1.1 8 (by decide)]; exact Int.le_refl _
    · intro y _ _
      show (ua w 10 (s.1 16) v).2 9 y = _
      rw [ua_2, if_neg (by omega), w1.2 9 (by decide)]
    · exact (SX.eq w1 (by decide) (by decide)).ua
    · have := H2 g u ⟨u1, u2⟩
      obtain ⟨g1, g2, g3⟩ := g
      unfold wriA at this
      rw [if_pos g1, if_neg (by omega)] at this
      exact this
  have bad : ¬ wriOk s v → (s.2 9 (s.1 16) = 1 ∨ s.2 9 (s.1 16) = 2 ∨ s.2 9 (s.1 16) = 3) → F (-1) s := fun g q => by
    have := H1 g
    unfold wriOk at g
    unfold wriA at this
    rw [if_pos q, if_pos (by omega)] at this
    exact this
  have no : ¬ (s.2 9 (s.1 16) = 1 ∨ s.2 9 (s.1 16) = 2 ∨ s.2 9 (s.1 16) = 3) → F (-4) s := fun q => by
    have := H1 (fun g => q g.1)
    unfold wriA at this
    rw [if_neg q] at this
    exact this
  refine B110 ⟨by omega, ?_⟩
  repeat' first
    | exact good (by unfold wriOk; omega)
    | exact bad (by unfold wriOk; omega) (by omega)
    | exact no (by omega)
    | refine ⟨fun _ => ?_, fun _ => ?_⟩
    | (exfalso; omega)
/-- take() -/
noncomputable def tkT (s : SM) (t : Term) : Term := rpT (s.1 16) (.index (s.1 8).toNat) t
def tkU (s : SM) : SM := us (replU (bornU s 0 (-9) (-9)) (s.1 16) (s.1 8)) 16 (s.1 8)
def tkA (s : SM) : Int := if s.2 9 (s.1 16) = 0 then -4 else if s.1 8 = 3000 then -2 else s.1 8
def tkOk (s : SM) : Prop := s.2 9 (s.1 16) ≠ 0 ∧ s.1 8 ≠ 3000
theorem take_ok {F : Int → SM → Prop} {K : List Snap} (h : SHT s t) (hN : NB s) (hc : s.1 16 ∈ fl t) (hK : KL s K) (hD : 100 ≤ d) (H1 : ¬ tkOk s → F (tkA s) s) (H2 : tkOk s → ∀ w, DONE s t K 0 (tkU s) w → F (tkA s) w) : cm iv L h0 d 108 [vr 307] s (qi F) := by
  obtain ⟨d, rfl⟩ : ∃ k, d = k + 2 := ⟨d - 2, by omega⟩
  have hlt := h.lt hc
  have h8 := h.2.2.2.2.1
  have mc := AT_mem t h.1 _ hc
  have hup : s.2 12 (s.1 16) = -9 ∨ (0 ≤ s.2 12 (s.1 16) ∧ s.2 12 (s.1 16) < 3004) ∧ 0 ≤ s.2 13 (s.1 16) ∧ s.2 13 (s.1 16) < 3 := by
    by_cases e : s.1 16 = hd t
    · exact Or.inl (by rw [e]; exact h.2.2.2.2.2.2.1)
    · obtain ⟨u1, u2, u3⟩ := mc.2.2.2 e
      have := h.lt u1
      have := pO_in (s.2 9 (s.2 12 (s.1 16)))
      exact Or.inr ⟨by omega, by omega⟩
  unfold tkA tkOk at H1
  unfold tkA at H2
  refine B108 ⟨by omega, fun e => ⟨fun e8 => ?_, fun e8 => ?_⟩, fun e => ?_⟩
  · refine beginAct_ok h (by omega) (fun w w1 w2 w3 => ?_)
    have w8 : w.1 8 = s.1 8 := w1.1 8 (by decide)
    have hx := SX.eq (ey := []) (ef := []) w1 (by decide) (by decide)
    refine born_ok (by omega) ?_
    rw [w8]
    have g16 : (bornU w 0 (-9) (-9)).1 16 = s.1 16 := (bornU_e.1 16 (by decide)).trans (w1.1 16 (by decide))
    have g12 : (bornU w 0 (-9) (-9)).2 12 = s.2 12 := (bornU_e.2 12 (by decide)).trans (w1.2 12 (by decide))
    have g13 : (bornU w 0 (-9) (-9)).2 13 = s.2 13 := (bornU_e.2 13 (by decide)).trans (w1.2 13 (by decide))
    rw [g16]
    refine replace_ok (by omega) (by rw [g12, g13]; exact hup) (by omega) ?_
    refine act_end (s' := tkU s) h hN hc hK w1 w3 ?_ ?_ ?_ ?_ (fun u u1 u2 => ?_)
    · exact eqx_us ((bornU_e.up (fun y q => by simp at q ⊢; omega) (fun y q => by simp at q ⊢; omega)).tr (replU_e.up (fun y q => by simp at q ⊢; omega) (fun y q => by simp at q ⊢; omega))) (by decide)
    · show s.1 8 ≤ (replU (bornU w 0 (-9) (-9)) (s.1 16) (s.1 8)).1 8
      rw [replU_e.1 8 (by decide), bornU_8]; omega
    · intro y y0 y1
      show (replU (bornU w 0 (-9) (-9)) (s.1 16) (s.1 8)).2 9 y = _
      rw [replU_e.2 9 (by decide), (bornU_o y (by rw [w8]; exact y1)).1.1, w1.2 9 (by decide)]
    · exact (replU_x (bornU_x hx (by decide)) (by omega) (by decide)).us
    · have := H2 ⟨e, e8⟩ u ⟨u1, u2⟩
      rw [if_neg e, if_neg e8] at this
      exact this
  · have := H1 (fun q => q.2 e8)
    rw [if_neg e, if_pos e8] at this
    exact this
  · have := H1 (fun q => q.1 e)
    rw [if_pos e] at this
    exact this
end
end
section
/-! put, unwrap. -/
def pgd (s : SM) (so v k : Int) : Prop := (0 ≤ so ∧ so ≤ 15) ∧ (so = 2 → 0 ≤ v ∧ v ≤ 1) ∧ ((so = 3 ∨ so = 8 ∨ so = 10) → 0 ≤ v ∧ v ≤ 25) ∧ ((so = 8 ∨ so = 15) → 0 ≤ k ∧ k < s.1 2)
def pfr (s : SM) (so : Int) : Int := if s.2 9 (s.1 16) = 0 then 1 + pO so else pO so
noncomputable def putA (s : SM) (t : Term) (so v k : Int) : Int := if (0 ≤ so ∧ so ≤ 15) ∧ ¬ (so = 2 ∧ ¬ (0 ≤ v ∧ v ≤ 1)) ∧ ¬ ((so = 3 ∨ so = 8 ∨ so = 10) ∧ ¬ (0 ≤ v ∧ v ≤ 25)) ∧ ¬ ((so = 8 ∨ so = 15) ∧ ¬ (0 ≤ k ∧ k < s.1 2)) then (if so = 0 ∨ (pO so = 0 ∧ s.2 9 (s.1 16) ≠ 0) then -4 else if 60 < ((fl t).length : Int) + pO so ∨ 3000 < s.1 8 + pfr s so then -2 else s.1 8) else -1
def putOk (s : SM) (t : Term) (so v k : Int) : Prop := pgd s so v k ∧ ¬ (so = 0 ∨ (pO so = 0 ∧ s.2 9 (s.1 16) ≠ 0)) ∧ ((fl t).length : Int) + pO so ≤ 60 ∧ s.1 8 + pfr s so ≤ 3000
def putU (s : SM) (so v k : Int) : SM := us (if s.2 9 (s.1 16) = 0 then hlsU (s.1 8) (pO so).toNat 0 (replU (bornU s so v k) (s.1 16) (s.1 8)) else hlsU (s.1 8) (pO so - 1).toNat 1 (partU (replU (bornU s so v k) (s.1 16) (s.1 8)) (s.1 8) 0 (s.1 16))) 16 (s.1 8)
noncomputable def putT (s : SM) (t : Term) (so : Int) : Term := rpT (s.1 16) (if s.2 9 (s.1 16) = 0 then adds (pO so).toNat ((s.1 8).toNat + 1) (.index (s.1 8).toNat) else adds (pO so - 1).toNat ((s.1 8).toNat + 1) (.add (.index (s.1 8).toNat) (sq (s.1 16) t))) t
theorem putA_bad {s : SM} {t : Term} {so v k : Int} (h : ¬ pgd s so v k) : putA s t so v k = -1 := by
  unfold putA
  unfold pgd at h
  rw [if_neg (by omega)]
theorem putA_st {s : SM} {t : Term} {so v k : Int} (h : pgd s so v k) (h1 : so = 0 ∨ (pO so = 0 ∧ s.2 9 (s.1 16) ≠ 0)) : putA s t so v k = -4 := by
  unfold putA
  unfold pgd at h
  rw [if_pos (by omega), if_pos h1]
theorem putA_fu {s : SM} {t : Term} {so v k : Int} (h : pgd s so v k) (h1 : ¬ (so = 0 ∨ (pO so = 0 ∧ s.2 9 (s.1 16) ≠ 0))) (h2 : 60 < ((fl t).length : Int) + pO so ∨ 3000 < s.1 8 + pfr s so) : putA s t so v k = -2 := by
  unfold putA
  unfold pgd at h
  rw [if_pos (by omega), if_neg h1, if_pos h2]
theorem putA_ok {s : SM} {t : Term} {so v k : Int} (h : putOk s t so v k) : putA s t so v k = s.1 8 := by
  obtain ⟨h1, h2, h3, h4⟩ := h
  unfold putA
  unfold pgd at h1
  rw [if_pos (by omega), if_neg h2, if_neg (by omega)]
section
variable {iv : List (Int × Int)} {L : Nat} {h0 : MH} {s : SM} {t : Term} {d : Nat}
theorem put_loop {b c q n : Int} {F : Int → SM → Prop} (hb : 0 ≤ b ∧ b < 3000) (hn : n ≤ 3) : ∀ (m : Nat) (i : Int) (x : SM), 0 ≤ i → i + m = n → (i ≠ 0 ∨ q ≠ 0) → 0 ≤ x.1 8 → x.1 8 + m ≤ 3000 → cm iv L h0 (d + 1) 100 [vr 307, vi 0] (us (hlsU b m i x) 16 b) (qv fun s1 => F b s1) → wm iv L h0 (d + 2) 107 212 [lr 307, ln, ln, ln, ln, li q, li n, ln, li c, li b, li i] [] x (qi F) := by
  intro m
  induction m with
  | zero => intro i x i0 hi hq h8 h8' H; exact B107_212 ⟨fun _ => H, fun q => by omega⟩
  | succ m ih =>
    intro i x i0 hi hq h8 h8' H
    have go : cm iv L h0 (d + 1) 74 [vr 307, vi 0, vi (-9), vi (-9)] x (qi fun r s2 => cm iv L h0 (d + 1) 76 [vr 307, vi b, vi i, vi r] s2 (qv fun s4 => (-2147483648 ≤ i + 1 ∧ i + 1 ≤ 2147483647) ∧ wm iv L h0 (d + 2) 107 212 [lr 307, ln, ln, ln, ln, li q, li n, ln, li c, li b, li (i + 1)] [] s4 (qi F))) :=
      born_ok (by omega) (setPart_ok (by omega) (by omega) (by omega) ⟨by omega, ih (i + 1) _ (by omega) (by omega) (Or.inl (by omega)) (by show 0 ≤ x.1 8 + 1; omega) (by show x.1 8 + 1 + (m : Int) ≤ 3000; omega) H⟩)
    exact B107_212 ⟨fun q => by omega, fun _ => ⟨fun _ => go, fun e => ⟨fun _ => go, fun q => by omega⟩⟩⟩
theorem hlsU_e (b : Int) : ∀ (m : Nat) (i : Int) (s : SM), eqx [8] [9, 10, 11, 12, 13, 14] s (hlsU b m i s) ∧ (hlsU b m i s).1 8 = s.1 8 + m ∧ ∀ y, y < s.1 8 → (hlsU b m i s).2 9 y = s.2 9 y := by
  intro m
  induction m with
  | zero => intro i s; exact ⟨eqx.rf, by show s.1 8 = s.1 8 + ((0 : Nat) : Int); omega, fun _ _ => rfl⟩
  | succ m ih =>
    intro i s
    obtain ⟨a1, a2, a3⟩ := ih (i + 1) (hlU b i s)
    refine ⟨hlU_e.tr a1, ?_, fun y hy => ?_⟩
    · show (hlsU b m (i + 1) (hlU b i s)).1 8 = _
      rw [a2, hlU_8]; omega
    · show (hlsU b m (i + 1) (hlU b i s)).2 9 y = _
      rw [a3 y (by rw [hlU_8]; omega)]
      show (partU (bornU s 0 (-9) (-9)) b i (s.1 8)).2 9 y = _
      rw [partU_e.2 9 (by decide)]
      exact (bornU_o y hy).1.1
theorem up_in (h : SHT s t) {c : Int} (hc : c ∈ fl t) : s.2 12 c = -9 ∨ (0 ≤ s.2 12 c ∧ s.2 12 c < 3004) ∧ 0 ≤ s.2 13 c ∧ s.2 13 c < 3 := by
  by_cases e : c = hd t
  · exact Or.inl (by rw [e]; exact h.2.2.2.2.2.2.1)
  · obtain ⟨u1, u2, u3⟩ := (AT_mem t h.1 _ hc).2.2.2 e
    have := h.lt u1
    have := pO_in (s.2 9 (s.2 12 c))
    exact Or.inr ⟨by omega, by omega⟩
theorem put_ok {so v k : Int} {F : Int → SM → Prop} {K : List Snap} (h : SHT s t) (hN : NB s) (hKI : KIs s) (hc : s.1 16 ∈ fl t) (hK : KL s K) (hD : 100 ≤ d) (H1 : ∀ w, ¬ putOk s t so v k → SX [] [] s w → F (putA s t so v k) w) (H2 : putOk s t so v k → ∀ w, DONE s t K 0 (putU s so v k) w → F (putA s t so v k) w) : cm iv L h0 d 107 [vr 307, vi so, vi v, vi k] s (qi F) := by
  obtain ⟨d, rfl⟩ : ∃ k, d = k + 2 := ⟨d - 2, by omega⟩
  have hlt := h.lt hc
  have h8 := h.2.2.2.2.1
  have hl := h.2.2.2.1
  have k3 := hKI.1
  have hup := up_in h hc
  have hpo := pO_in so
  have G0 : ¬ pgd s so v k → wm iv L h0 (d + 2) 107 76 [lr 307, li so, li v, li k] [vi 0] s (qi F) := fun g => B107_76 ⟨fun q => absurd rfl q, fun _ => by
    have := H1 s (fun q => g q.1) SX.rf
    rw [putA_bad g] at this
    exact this⟩
  have G1 : pgd s so v k → wm iv L h0 (d + 2) 107 76 [lr 307, li so, li v, li k] [vi 1] s (qi F) := fun g => by
    have st : (so = 0 ∨ (pO so = 0 ∧ s.2 9 (s.1 16) ≠ 0)) → F (-4) s := fun q => by
      have := H1 s (fun p => p.2.1 q) SX.rf
      rw [putA_st g q] at this
      exact this
    have fu : ∀ w, SX [] [] s w → ¬ (so = 0 ∨ (pO so = 0 ∧ s.2 9 (s.1 16) ≠ 0)) → (60 < ((fl t).length : Int) + pO so ∨ 3000 < s.1 8 + pfr s so) → F (-2) w := fun w hw q1 q2 => by
      have := H1 w (fun p => by have := p.2.2; omega) hw
      rw [putA_fu g q1 q2] at this
      exact this
    have gso := g.1
    -- the act itself
    have go : ∀ (s3 : SM) (q : Int), eqx [18] [17] s s3 → putOk s t so v k → (q = if s.2 9 (s.1 16) = 0 then 1 else 0) → cm iv L h0 (d + 1) 99 [vr 307] s3 (qv fun s8 => cm iv L h0 (d + 1) 74 [vr 307, vi so, vi v, vi k] s8 (qi fun r10 s9 => cm iv L h0 (d + 1) 77 [vr 307, vi (s8.1 16), vi r10] s9 (qv fun s11 => wm iv L h0 (d + 2) 107 212 [lr 307, ln, ln, ln, ln, li q, li (pO so), ln, li (s8.1 16), li r10, li 0] [] s11 (qi F)))) := fun s3 q e3 gok hq => by
      have hx3 := SX_lay e3
      refine beginAct_ok (h.x hx3 (by decide) (by decide)) (by omega) (fun w w1 w2 w3 => ?_)
      have w1 : eqx [18, 30, 31] [17, 32, 33, 34] s w := (e3.up (fun y q => by simp at q ⊢; omega) (fun y q => by simp at q ⊢; omega)).tr w1
      have w3 : AH w (t, s) := by
        obtain ⟨a1, a2, a3⟩ := w3
        refine ⟨a1, a2.trans (e3.1 16 (by decide)), fun k x hk => ?_⟩
        have := a3 k x hk
        rw [show ((t, s3) : Snap).2.2 10 x = s.2 10 x from by show s3.2 10 x = _; rw [e3.2 10 (by decide)], show ((t, s3) : Snap).2.2 14 = s.2 14 from e3.2 14 (by decide)] at this
        exact this
      have w8 : w.1 8 = s.1 8 := w1.1 8 (by decide)
      have hx := SX.eq (ey := []) (ef := []) w1 (by decide) (by decide)
      have w16 : w.1 16 = s.1 16 := w1.1 16 (by decide)
      have gf := gok.2.2.2
      have b8 : s.1 8 < 3000 := by have g2 := gok.2.1; unfold pfr at gf; split at gf <;> omega
      rw [w16]
      refine born_ok (by omega) ?_
      rw [w8]
      have g12 : (bornU w so v k).2 12 = s.2 12 := (bornU_e.2 12 (by decide)).trans (w1.2 12 (by decide))
      have g13 : (bornU w so v k).2 13 = s.2 13 := (bornU_e.2 13 (by decide)).trans (w1.2 13 (by decide))
      refine replace_ok (by omega) (by rw [g12, g13]; exact hup) (by omega) ?_
      have x8 : (replU (bornU w so v k) (s.1 16) (s.1 8)).1 8 = s.1 8 + 1 := by rw [replU_e.1 8 (by decide), bornU_8, w8]
      have xe : eqx [8, 15, 16, 41] [9, 10, 11, 12, 13, 14, 36, 42] w (replU (bornU w so v k) (s.1 16) (s.1 8)) := (bornU_e.up (fun y q => by simp at q ⊢; omega) (fun y q => by simp at q ⊢; omega)).tr (replU_e.up (fun y q => by simp at q ⊢; omega) (fun y q => by simp at q ⊢; omega))
      have x9 : ∀ y, 0 ≤ y → y < s.1 8 → (replU (bornU w so v k) (s.1 16) (s.1 8)).2 9 y = s.2 9 y := fun y y0 y1 => by
        rw [replU_e.2 9 (by decide), (bornU_o y (by rw [w8]; exact y1)).1.1, w1.2 9 (by decide)]
      have xs : SX [] [] (replU (bornU s so v k) (s.1 16) (s.1 8)) (replU (bornU w so v k) (s.1 16) (s.1 8)) := replU_x (bornU_x hx (by decide)) (by omega) (by decide)
      have H2' := H2 gok
      rw [putA_ok gok] at H2'
      by_cases ho : s.2 9 (s.1 16) = 0
      · rw [if_pos ho] at hq
        unfold pfr at gf
        rw [if_pos ho] at gf
        obtain ⟨e1, e2, e4⟩ := hlsU_e (s.1 8) (pO so).toNat 0 (replU (bornU w so v k) (s.1 16) (s.1 8))
        refine put_loop (by omega) hpo.2 (pO so).toNat 0 _ (by omega) (by omega) (Or.inr (by omega)) (by omega) (by omega) ?_
        refine act_end (s' := putU s so v k) h hN hc hK w1 w3 (eqx_us (xe.tr (e1.up (fun y q => by simp at q ⊢; omega) (fun y q => by simp at q ⊢; omega))) (by decide)) ?_ ?_ ?_ (fun u u1 u2 => H2' u ⟨u1, u2⟩)
        · show s.1 8 ≤ (hlsU _ _ _ _).1 8
          omega
        · intro y y0 y1
          show (hlsU _ _ _ _).2 9 y = _
          rw [e4 y (by omega)]
          exact x9 y y0 y1
        · unfold putU
          rw [if_pos ho]
          exact (hlsU_x (by decide) _ _ _ _ xs).us
      · rw [if_neg ho] at hq
        unfold pfr at gf
        rw [if_neg ho] at gf
        have hn1 : 1 ≤ pO so := by have := gok.2.1; omega
        refine B107_212 ⟨fun q => by omega, fun _ => ⟨fun q => absurd rfl q, fun _ => ⟨fun q2 => by omega, fun _ => setPart_ok (by omega) (by decide) (by omega) ⟨by omega, ?_⟩⟩⟩⟩
        obtain ⟨e1, e2, e4⟩ := hlsU_e (s.1 8) (pO so - 1).toNat 1 (partU (replU (bornU w so v k) (s.1 16) (s.1 8)) (s.1 8) 0 (s.1 16))
        have y8 : (partU (replU (bornU w so v k) (s.1 16) (s.1 8)) (s.1 8) 0 (s.1 16)).1 8 = s.1 8 + 1 := x8
        refine put_loop (by omega) hpo.2 (pO so - 1).toNat 1 _ (by omega) (by omega) (Or.inl (by omega)) (by omega) (by omega) ?_
        refine act_end (s' := putU s so v k) h hN hc hK w1 w3 (eqx_us ((xe.tr (partU_e.up (fun _ q => by cases q) (fun y q => by simp at q ⊢; omega))).tr (e1.up (fun y q => by simp at q ⊢; omega) (fun y q => by simp at q ⊢; omega))) (by decide)) ?_ ?_ ?_ (fun u u1 u2 => H2' u ⟨u1, u2⟩)
        · show s.1 8 ≤ (hlsU _ _ _ _).1 8
          omega
        · intro y y0 y1
          show (hlsU _ _ _ _).2 9 y = _
          rw [e4 y (by omega), partU_e.2 9 (by decide)]
          exact x9 y y0 y1
        · unfold putU
          rw [if_neg ho]
          exact (hlsU_x (by decide) _ _ _ _ (partU_x xs)).us
    have hole : s.2 9 (s.1 16) = 0 → so ≠ 0 → cm iv L h0 (d + 1) 82 [vr 307] s (qi fun r15 s14 => (-2147483648 ≤ r15 + (1 + (pO so)) ∧ r15 + (1 + (pO so)) ≤ 2147483647) ∧ (-2147483648 ≤ (r15 + (1 + (pO so))) - 1 ∧ (r15 + (1 + (pO so))) - 1 ≤ 2147483647) ∧ ((60 < (r15 + (1 + (pO so))) - 1 → F (-2) s14) ∧ ((r15 + (1 + (pO so))) - 1 ≤ 60 → (-2147483648 ≤ (s14.1 8) + (1 + (pO so)) ∧ (s14.1 8) + (1 + (pO so)) ≤ 2147483647) ∧ (((s14.1 8) + (1 + (pO so)) ≤ 3000 → cm iv L h0 (d + 1) 99 [vr 307] s14 (qv fun s19 => cm iv L h0 (d + 1) 74 [vr 307, vi so, vi v, vi k] s19 (qi fun r21 s20 => cm iv L h0 (d + 1) 77 [vr 307, vi (s19.1 16), vi r21] s20 (qv fun s22 => wm iv L h0 (d + 2) 107 212 [lr 307, ln, ln, ln, ln, li 1, li (pO so), ln, li (s19.1 16), li r21, li 0] [] s22 (qi F))))) ∧ (3000 < (s14.1 8) + (1 + (pO so)) → F (-2) s14))))) := fun ho h0 => by
      refine nodes_ok h (by omega) (fun w hw => ⟨by omega, by omega, fun q => fu w (SX_lay hw) (by omega) (Or.inl (by omega)), fun q => ?_⟩)
      rw [hw.1 8 (by decide)]
      have ep : pfr s so = 1 + pO so := if_pos ho
      exact ⟨by omega, fun q2 => go w 1 hw ⟨g, by omega, by omega, by omega⟩ (by rw [if_pos ho]), fun q2 => fu w (SX_lay hw) (by omega) (Or.inr (by omega))⟩
    refine B107_76 ⟨fun _ => ⟨by omega, fun ho => ⟨by omega, fun e => st (Or.inl e), fun e => ⟨fun en => ?_, fun en => st (Or.inr ⟨en, ho⟩)⟩⟩, fun ho => ⟨by omega, fun e => st (Or.inl e), fun e => ⟨fun en => ⟨by omega, hole ho e⟩, fun en => ⟨by omega, hole ho e⟩⟩⟩⟩, fun q => by omega⟩
    refine nodes_ok h (by omega) (fun w hw => ⟨by omega, by omega, fun q => fu w (SX_lay hw) (by omega) (Or.inl (by omega)), fun q => ?_⟩)
    rw [hw.1 8 (by decide)]
    have ep : pfr s so = pO so := if_neg ho
    exact ⟨by omega, fun q2 => go w 0 hw ⟨g, by omega, by omega, by omega⟩ (by rw [if_neg ho]), fun q2 => fu w (SX_lay hw) (by omega) (Or.inr (by omega))⟩
  refine B107 ?_
  repeat' first
    | exact G1 (by unfold pgd; omega)
    | exact G0 (by unfold pgd; omega)
    | refine ⟨fun _ => ?_, fun _ => ?_⟩
    | refine ⟨k3, ?_⟩
    | (exfalso; omega)
/-- unwrap() -/
noncomputable def uwT (s : SM) (t : Term) (i : Int) : Term := rpT (s.1 16) (prt i (sq (s.1 16) t)) t
def uwU (s : SM) (i : Int) : SM := us (replU s (s.1 16) (s.2 14 (3 * s.1 16 + i))) 16 (s.2 14 (3 * s.1 16 + i))
def uwA (s : SM) (i : Int) : Int := if pO (s.2 9 (s.1 16)) = 0 then -4 else if 0 ≤ i ∧ i < pO (s.2 9 (s.1 16)) then s.2 14 (3 * s.1 16 + i) else -3
def uwOk (s : SM) (i : Int) : Prop := 0 ≤ i ∧ i < pO (s.2 9 (s.1 16))
def uwN (s : SM) : SM := if pO (s.2 9 (s.1 16)) = 0 then s else mtU s 2
theorem unwrap_ok {n i : Int} {F : Int → SM → Prop} {K : List Snap} (h : SHT s t) (hN : NB s) (hcm : CM n s) (hn : n ≤ 600) (hc : s.1 16 ∈ fl t) (hK : KL s K) (hD : 100 ≤ d) (H1 : ¬ uwOk s i → F (uwA s i) (uwN s)) (H2 : uwOk s i → ∀ w, DONE s t K 0 (uwU s i) w → F (uwA s i) w) : cm iv L h0 d 109 [vr 307, vi i] s (qi F) := by
  obtain ⟨d, rfl⟩ : ∃ k, d = k + 2 := ⟨d - 2, by omega⟩
  have hlt := h.lt hc
  have mc := AT_mem t h.1 _ hc
  have hpo := pO_in (s.2 9 (s.1 16))
  have hup := up_in h hc
  unfold uwA uwN uwOk at H1
  unfold uwA uwOk at H2
  refine B109 ⟨by omega, mc.2.1, fun e => ⟨by omega, fun hi => ?_, fun hi => meets_ok hcm hn (by decide) ?_⟩, fun e => ?_⟩
  · have hi2 : i < pO (s.2 9 (s.1 16)) := by omega
    refine beginAct_ok h (by omega) (fun w w1 w2 w3 => ?_)
    have hx := SX.eq (ey := []) (ef := []) w1 (by decide) (by decide)
    have w16 : w.1 16 = s.1 16 := w1.1 16 (by decide)
    have w14 : w.2 14 = s.2 14 := w1.2 14 (by decide)
    rw [w16, w14]
    have hp : s.2 14 (3 * s.1 16 + i) ∈ fl t := (mc.2.2.1 i hi.1 hi2 (fun q => by have := h.2.1; unfold full at this; rw [this, ← q]; exact hi2)).1
    have hpl := h.lt hp
    refine ⟨by omega, by omega, by omega, replace_ok (by omega) (by rw [w1.2 12 (by decide), w1.2 13 (by decide)]; exact hup) (by omega) ?_⟩
    refine act_end (s' := uwU s i) h hN hc hK w1 w3 (eqx_us (replU_e.up (fun y q => by simp at q ⊢; omega) (fun y q => by simp at q ⊢; omega)) (by decide)) ?_ ?_ ?_ (fun u u1 u2 => ?_)
    · show s.1 8 ≤ (replU w _ _).1 8
      rw [replU_e.1 8 (by decide), w1.1 8 (by decide)]; exact Int.le_refl _
    · intro y y0 y1
      show (replU w _ _).2 9 y = _
      rw [replU_e.2 9 (by decide), w1.2 9 (by decide)]
    · exact (replU_x hx (by omega) (by decide)).us
    · have := H2 ⟨hi.1, hi2⟩ u ⟨u1, u2⟩
      rw [if_neg e, if_pos ⟨hi.1, hi2⟩] at this
      exact this
  · have := H1 (by omega)
    simp only [if_neg e, if_neg (show ¬ (0 ≤ i ∧ i < pO (s.2 9 (s.1 16))) by omega)] at this
    exact this
  · have := H1 (by omega)
    simp only [if_pos e] at this
    exact this
end
end
section
/-! What holds of the sheet behind an act. -/
def AFT (s : SM) (t : Term) : Prop := SHT s t ∧ NB s ∧ s.1 16 ∈ fl t
theorem AFT.x {ey ef : List Nat} {s w : SM} {t : Term} (h : AFT s t) (hx : SX ey ef s w) (hy : 2 ∉ ey ∧ 8 ∉ ey ∧ 15 ∉ ey ∧ 16 ∉ ey) (hf : 9 ∉ ef ∧ 10 ∉ ef ∧ 11 ∉ ef ∧ 12 ∉ ef ∧ 13 ∉ ef ∧ 14 ∉ ef) : AFT w t :=
  ⟨h.1.x hx ⟨hy.2.1, hy.2.2.1⟩ ⟨hf.1, hf.2.2.2⟩, h.2.1.x hx h.1.2.2.2.2.1.2 ⟨hy.1, hy.2.1⟩ ⟨hf.1, hf.2.1, hf.2.2.1⟩, by rw [hx.1 16 (by decide) hy.2.2.2]; exact h.2.2⟩
def nodOk (s : SM) (x : Int) : Prop := (0 ≤ s.2 9 x ∧ s.2 9 x < 16) ∧ ((s.2 9 x = 3 ∨ s.2 9 x = 8 ∨ s.2 9 x = 10) → 0 ≤ s.2 10 x ∧ s.2 10 x < 26) ∧ (s.2 9 x = 2 → s.2 10 x = 0 ∨ s.2 10 x = 1) ∧ ((s.2 9 x = 8 ∨ s.2 9 x = 15) → 0 ≤ s.2 11 x ∧ s.2 11 x < s.1 2)
theorem NB_new {s w : SM} (h : NB s) (h2 : w.1 2 = s.1 2) (ho : ∀ y, 0 ≤ y → y < s.1 8 → w.2 9 y = s.2 9 y ∧ w.2 10 y = s.2 10 y ∧ w.2 11 y = s.2 11 y) (hn : ∀ y, s.1 8 ≤ y → y < w.1 8 → nodOk w y) : NB w := fun x x0 x1 => by
  by_cases e : x < s.1 8
  · obtain ⟨e1, e2, e3⟩ := ho x x0 e
    rw [e1, e2, e3, h2]
    exact h x x0 e
  · exact hn x (by omega) x1
theorem nodOk_hole {w : SM} {x : Int} (h : w.2 9 x = 0) : nodOk w x := by
  unfold nodOk
  rw [h]
  exact ⟨by decide, fun q => by omega, fun q => by omega, fun q => by omega⟩
section
variable {s : SM} {t : Term}
theorem wri_aft {v : Int} (h : AFT s t) (hg : wriOk s v) : AFT (ua s 10 (s.1 16) v) t := by
  obtain ⟨h1, h2, h3⟩ := h
  refine ⟨?_, fun x x0 x1 => ?_, h3⟩
  · exact h1
  · have hn := h2 x x0 x1
    show (0 ≤ s.2 9 x ∧ s.2 9 x < 16) ∧ ((s.2 9 x = 3 ∨ s.2 9 x = 8 ∨ s.2 9 x = 10) → 0 ≤ (ua s 10 (s.1 16) v).2 10 x ∧ (ua s 10 (s.1 16) v).2 10 x < 26) ∧ (s.2 9 x = 2 → (ua s 10 (s.1 16) v).2 10 x = 0 ∨ (ua s 10 (s.1 16) v).2 10 x = 1) ∧ ((s.2 9 x = 8 ∨ s.2 9 x = 15) → 0 ≤ s.2 11 x ∧ s.2 11 x < s.1 2)
    rw [ua_2]
    by_cases e : x = s.1 16
    · rw [if_pos ⟨rfl, e⟩]
      obtain ⟨g1, g2, g3⟩ := hg
      rw [← e] at g1 g2 g3
      exact ⟨hn.1, fun q => by omega, fun q => by omega, hn.2.2.2⟩
    · rw [if_neg (by omega)]
      exact hn
theorem sq_in (h : SHT s t) {c y : Int} (hc : c ∈ fl t) (hy : y ∈ fl (sq c t)) : 0 ≤ y ∧ y < s.1 8 := by
  obtain ⟨a1, a2, a3, a4, a5, a6, a7⟩ := sq_ok h.1 h.2.1 h.2.2.1 hc
  have := h.lt (a4 y hy)
  omega
theorem len_rp (h : SHT s t) {c : Int} (hc : c ∈ fl t) (u : Term) : (fl (rpT c u t)).length + (fl (sq c t)).length = (fl t).length + (fl u).length ∧ ∀ y, y ∈ fl u → y ∈ fl (rpT c u t) := by
  obtain ⟨a, z, e1, e2, -⟩ := rpT_fl h.1 h.2.2.1 hc
  refine ⟨?_, fun y hy => by rw [e2]; simp [hy]⟩
  rw [e2]
  conv => rhs; rw [e1]
  simp only [List.length_append]
  omega
theorem sq_pos (h : SHT s t) {c : Int} (hc : c ∈ fl t) : 1 ≤ (fl (sq c t)).length := by
  obtain ⟨a1, a2, a3, a4, a5, a6, a7⟩ := sq_ok h.1 h.2.1 h.2.2.1 hc
  exact List.length_pos_of_mem (hd_mem _ a1)
/-- a new node in the place of c, nothing on it yet -/
theorem new_in (h : SHT s t) {so v k c : Int} (hc : c ∈ fl t) (hso : 0 ≤ so ∧ so < 16) : ATs (replU (bornU s so v k) c (s.1 8)) (.index (s.1 8).toNat) ∧ (replU (bornU s so v k) c (s.1 8)).1 8 = s.1 8 + 1 ∧ ((replU (bornU s so v k) c (s.1 8)).2 9 (s.1 8) = so ∧ (replU (bornU s so v k) c (s.1 8)).2 10 (s.1 8) = nvl so v ∧ (replU (bornU s so v k) c (s.1 8)).2 11 (s.1 8) = kvl so k) ∧
    (∀ y, y < s.1 8 → ((replU (bornU s so v k) c (s.1 8)).2 9 y = s.2 9 y ∧ (replU (bornU s so v k) c (s.1 8)).2 10 y = s.2 10 y ∧ (replU (bornU s so v k) c (s.1 8)).2 11 y = s.2 11 y) ∧ ((replU (bornU s so v k) c (s.1 8)).2 12 y = s.2 12 y ∧ (replU (bornU s so v k) c (s.1 8)).2 13 y = s.2 13 y) ∧ ∀ i, 3 * y + i ≠ 3 * s.2 12 c + s.2 13 c → (replU (bornU s so v k) c (s.1 8)).2 14 (3 * y + i) = s.2 14 (3 * y + i)) ∧
    (((replU (bornU s so v k) c (s.1 8)).2 12 (s.1 8) = s.2 12 c ∧ (replU (bornU s so v k) c (s.1 8)).2 13 (s.1 8) = s.2 13 c) ∧ (c ≠ hd t → (replU (bornU s so v k) c (s.1 8)).2 14 (3 * s.2 12 c + s.2 13 c) = s.1 8) ∧ (replU (bornU s so v k) c (s.1 8)).1 15 = if c = hd t then s.1 8 else s.1 15) := by
  have hB := h.2.2.2.2.1
  have e8 : (((s.1 8).toNat : Nat) : Int) = s.1 8 := by omega
  obtain ⟨r1, r2, r3, r4, r5⟩ := replU_in (b := s.1 8) h hc (show (bornU s so v k).2 12 c = s.2 12 c by rw [bornU_e.2 12 (by decide)]) (show (bornU s so v k).2 13 c = s.2 13 c by rw [bornU_e.2 13 (by decide)])
  obtain ⟨d1, d2, d3⟩ := bornU_at (s := s) (so := so) (v := v) (k := k)
  have n8 : (replU (bornU s so v k) c (s.1 8)).1 8 = s.1 8 + 1 := by rw [replU_e.1 8 (by decide), bornU_8]
  have n9 := replU_e.2 9 (by decide) ▸ (rfl : (replU (bornU s so v k) c (s.1 8)).2 9 = (replU (bornU s so v k) c (s.1 8)).2 9)
  refine ⟨⟨?_, ?_⟩, n8, ⟨?_, ?_, ?_⟩, fun y hy => ⟨⟨?_, ?_, ?_⟩, ⟨?_, ?_⟩, fun i hi => ?_⟩, r1, r2, ?_⟩
  · rw [e8, n8]; omega
  · rw [e8, replU_e.2 9 (by decide), d1]; exact hso
  · rw [replU_e.2 9 (by decide)]; exact d1
  · rw [replU_e.2 10 (by decide)]; exact d2
  · rw [replU_e.2 11 (by decide)]; exact d3
  · rw [replU_e.2 9 (by decide)]; exact (bornU_o y hy).1.1
  · rw [replU_e.2 10 (by decide)]; exact (bornU_o y hy).1.2.1
  · rw [replU_e.2 11 (by decide)]; exact (bornU_o y hy).1.2.2
  · rw [(r4 y (by omega)).1, bornU_e.2 12 (by decide)]
  · rw [(r4 y (by omega)).2, bornU_e.2 13 (by decide)]
  · rw [r5 _ hi, bornU_e.2 14 (by decide)]
  · rw [r3, bornU_e.1 15 (by decide)]
theorem take_aft (h : AFT s t) (hg : tkOk s) : AFT (tkU s) (tkT s t) := by
  obtain ⟨h1, h2, h3⟩ := h
  have hB := h1.2.2.2.2.1
  have h8 : s.1 8 < 3000 := by have := hg.2; omega
  have e8 : (((s.1 8).toNat : Nat) : Int) = s.1 8 := by omega
  obtain ⟨n1, n2, n3, n4, n5, n6, n7⟩ := new_in (so := 0) (v := -9) (k := -9) h1 h3 (by decide)
  have hl := len_rp h1 h3 (.index (s.1 8).toNat)
  have hp := sq_pos h1 h3
  have hll := h1.2.2.2.1
  have f1 : (fl (Term.index (s.1 8).toNat)).length = 1 := rfl
  refine ⟨SHT_rp (w := tkU s) h1 h3 ⟨?_, ?_⟩ n1 ?_ ?_ (fun y hy hyt => ?_) (fun y hy _ => ?_) ?_ ?_ ?_ (by omega), NB_new h2 ?_ (fun y y0 y1 => (n4 y y1).1) (fun y y0 y1 => ?_), ?_⟩
  · show s.1 8 ≤ (replU _ _ _).1 8; omega
  · show (replU _ _ _).1 8 ≤ 3000; omega
  · show (0 : Int) = pO ((replU (bornU s 0 (-9) (-9)) (s.1 16) (s.1 8)).2 9 (((s.1 8).toNat : Nat) : Int))
    rw [e8, n3.1]; rfl
  · simp [fl]
  · have := List.mem_singleton.mp hy
    have := h1.lt hyt
    omega
  · have hy2 := h1.lt hy
    obtain ⟨a1, a2, a3⟩ := n4 y hy2.2.1
    exact ⟨a1.1, a2.1, a2.2, fun i _ _ hi => a3 i hi⟩
  · show (replU _ _ _).2 12 (((s.1 8).toNat : Nat) : Int) = _ ∧ (replU _ _ _).2 13 (((s.1 8).toNat : Nat) : Int) = _
    rw [e8]; exact n5
  · intro q
    show (replU _ _ _).2 14 _ = (((s.1 8).toNat : Nat) : Int)
    rw [e8]; exact n6 q
  · show (replU _ _ _).1 15 = if _ then (((s.1 8).toNat : Nat) : Int) else _
    rw [e8]; exact n7
  · exact (replU_e.1 2 (by decide)).trans (bornU_e.1 2 (by decide))
  · have : y < (replU (bornU s 0 (-9) (-9)) (s.1 16) (s.1 8)).1 8 := y1
    obtain rfl : y = s.1 8 := by omega
    exact nodOk_hole n3.1
  · show s.1 8 ∈ _
    exact hl.2 _ (by show s.1 8 ∈ [(((s.1 8).toNat : Nat) : Int)]; rw [e8]; simp)
theorem unwrap_aft {i : Int} (h : AFT s t) (hg : uwOk s i) : AFT (uwU s i) (uwT s t i) := by
  obtain ⟨h1, h2, h3⟩ := h
  obtain ⟨a1, a2, a3, a4, a5, a6, a7⟩ := sq_ok h1.1 h1.2.1 h1.2.2.1 h3
  have hna : i < na (sq (s.1 16) t) := by
    unfold full at a2
    rw [a2, a3]
    exact hg.2
  obtain ⟨p1, p2, p3, p4, p5, p6, p7, p8, p9⟩ := prt_ok _ a1 a5 hg.1 hna
  rw [a3] at p3 p5 p8
  have hup := sq_up h1 h3
  have hl := len_rp h1 h3 (prt i (sq (s.1 16) t))
  have hll := h1.2.2.2.1
  have hpm := hd_mem _ p1
  obtain ⟨r1, r2, r3, r4, r5⟩ := replU_in (b := s.2 14 (3 * s.1 16 + i)) h1 h3 rfl rfl
  have e8 : (uwU s i).1 8 = s.1 8 := replU_e.1 8 (by decide)
  have e9 : (uwU s i).2 9 = s.2 9 := replU_e.2 9 (by decide)
  refine ⟨SHT_rp (w := uwU s i) h1 h3 (by rw [e8]; exact ⟨Int.le_refl _, h1.2.2.2.2.1.2⟩) ?_ ?_ p6 (fun y hy _ => p4 y hy) (fun y hy hyn => ?_) ?_ ?_ ?_ (by omega), fun x x0 x1 => ?_, ?_⟩
  · refine AT_cg (by rw [e8]; exact Int.le_refl _) _ p1 p6 (fun x hx => ⟨by rw [e9], fun j j0 j1 _ => ?_⟩) (fun x hx hne => ?_)
    · refine r5 _ (fun q => ?_)
      have := pO_in (s.2 9 x)
      have hx2 := p4 x hx
      rcases up_in h1 h3 with e | e
      · have := h1.lt (a4 x hx2)
        have e13 : s.1 16 = hd t := Classical.byContradiction fun q => by
          have := h1.lt ((AT_mem t h1.1 _ h3).2.2.2 q).1
          omega
        have := h1.2.2.2.2.2.2.2
        rw [← e13] at this
        omega
      · have : x = s.2 12 (s.1 16) := by omega
        exact hup (by rw [← this]; exact hx2)
    · rw [p3] at hne
      exact r4 x hne
  · unfold full
    rw [e9]
    exact p2
  · have hy2 := h1.lt hy
    have hne : y ≠ s.2 14 (3 * s.1 16 + i) := fun q => hyn (p4 y (by rw [q, ← p3]; exact hpm))
    exact ⟨by rw [e9], (r4 y hne).1, (r4 y hne).2, fun j j0 j3 hj => r5 _ hj⟩
  · rw [p3]; exact r1
  · rw [p3]; exact r2
  · rw [p3]; exact r3
  · rw [e8] at x1
    rw [e9, show (uwU s i).2 10 = s.2 10 from replU_e.2 10 (by decide), show (uwU s i).2 11 = s.2 11 from replU_e.2 11 (by decide), show (uwU s i).1 2 = s.1 2 from replU_e.1 2 (by decide)]
    exact h2 x x0 x1
  · show s.2 14 (3 * s.1 16 + i) ∈ _
    rw [← p3]
    exact hl.2 _ hpm
theorem adds_len (m B : Nat) (u : Term) : (fl (adds m B u)).length = (fl u).length + m := by
  rw [adds_fl]; simp
theorem adds_mem {m B : Nat} {u : Term} {y : Int} (h : y ∈ fl (adds m B u)) : y ∈ fl u ∨ ((B : Int) ≤ y ∧ y < B + m) := by
  rw [adds_fl] at h
  rcases List.mem_append.mp h with h | h
  · exact Or.inl h
  · obtain ⟨z, h1, h2⟩ := List.mem_map.mp h
    obtain ⟨h3, h4⟩ := List.mem_range'_1.mp h1
    right
    rw [← h2]
    show (B : Int) ≤ (z : Int) ∧ (z : Int) < B + m
    omega
theorem put_aft {so v k : Int} (h : AFT s t) (hg : putOk s t so v k) : AFT (putU s so v k) (putT s t so) := by
  obtain ⟨h1, h2, h3⟩ := h
  have hB := h1.2.2.2.2.1
  have hll := h1.2.2.2.1
  obtain ⟨⟨g1, g2, g3, g4⟩, g5, g6, g7⟩ := hg
  have hpo := pO_in so
  have h8 : s.1 8 < 3000 := by unfold pfr at g7; split at g7 <;> omega
  have e8 : (((s.1 8).toNat : Nat) : Int) = s.1 8 := by omega
  have hct := h1.lt h3
  obtain ⟨n1, n2, n3, n4, n5, n6, n7⟩ := new_in (so := so) (v := v) (k := k) h1 h3 (by omega)
  have hp := sq_pos h1 h3
  -- what the new node bears is right
  have nok : ∀ w : SM, w.2 9 (s.1 8) = so → w.2 10 (s.1 8) = nvl so v → w.2 11 (s.1 8) = kvl so k → w.1 2 = s.1 2 → nodOk w (s.1 8) := fun w w9 w10 w11 w2 => by
    unfold nodOk
    rw [w9, w10, w11, w2]
    unfold nvl kvl
    refine ⟨by omega, fun q => ?_, fun q => ?_, fun q => ?_⟩
    · rw [if_pos (by omega)]; have := g3 q; omega
    · rw [if_pos (by omega)]; have := g2 q; omega
    · rw [if_pos q]; exact g4 q
  -- the cells behind all of it, out of those behind the new node's coming
  have fin : ∀ (x : SM) (u : Term) (m : Nat) (i : Int), x.1 8 = s.1 8 + 1 → ATs x u → (fl u).Nodup → hd u = s.1 8 → na u = i → i + m = pO so → (x.2 9 (s.1 8) = so ∧ x.2 10 (s.1 8) = nvl so v ∧ x.2 11 (s.1 8) = kvl so k) → (x.2 12 (s.1 8) = s.2 12 (s.1 16) ∧ x.2 13 (s.1 8) = s.2 13 (s.1 16)) → (s.1 16 ≠ hd t → x.2 14 (3 * s.2 12 (s.1 16) + s.2 13 (s.1 16)) = s.1 8) → (x.1 15 = if s.1 16 = hd t then s.1 8 else s.1 15) → x.1 2 = s.1 2 →
      (∀ y, 0 ≤ y → y < s.1 8 → x.2 9 y = s.2 9 y ∧ x.2 10 y = s.2 10 y ∧ x.2 11 y = s.2 11 y) → (∀ y, y ∈ fl t → y ∉ fl (sq (s.1 16) t) → (x.2 12 y = s.2 12 y ∧ x.2 13 y = s.2 13 y) ∧ ∀ i, 0 ≤ i → i < 3 → 3 * y + i ≠ 3 * s.2 12 (s.1 16) + s.2 13 (s.1 16) → x.2 14 (3 * y + i) = s.2 14 (3 * y + i)) → (∀ y, y ∈ fl u → y ∈ fl t → y ∈ fl (sq (s.1 16) t)) → ((fl u).length + m + (fl t).length ≤ 60 + (fl (sq (s.1 16) t)).length) → s.1 8 + 1 + m ≤ 3000 →
      AFT (us (hlsU (s.1 8) m i x) 16 (s.1 8)) (rpT (s.1 16) (adds m ((s.1 8).toNat + 1) u) t) := by
    intro x u m i x8 xu xn xh xa xi x9 xup xpa xt x2 xo xf xd xl xb
    obtain ⟨q1, q2, q3, q4, q5, q6, q7⟩ := hlsU_ok m i x u xu xn xh xa (by rw [x9.1]; exact xi) (by omega)
    have t8 : (x.1 8).toNat = (s.1 8).toNat + 1 := by omega
    rw [t8] at q1 q2
    have ah := adds_hd m ((s.1 8).toNat + 1) u
    have hl := len_rp h1 h3 (adds m ((s.1 8).toNat + 1) u)
    rw [adds_len] at hl
    have old : ∀ y, 0 ≤ y → y < s.1 8 → (hlsU (s.1 8) m i x).2 9 y = s.2 9 y ∧ (hlsU (s.1 8) m i x).2 10 y = s.2 10 y ∧ (hlsU (s.1 8) m i x).2 11 y = s.2 11 y := fun y y0 y1 => by
      obtain ⟨⟨c1, c2, c3⟩, -⟩ := q4 y ⟨by omega, by omega⟩
      obtain ⟨d1, d2, d3⟩ := xo y y0 y1
      exact ⟨c1.trans d1, c2.trans d2, c3.trans d3⟩
    refine ⟨SHT_rp (w := us (hlsU (s.1 8) m i x) 16 (s.1 8)) h1 h3 ⟨?_, ?_⟩ q1 ?_ q2 (fun y hy hyt => ?_) (fun y hy hyn => ?_) ?_ (fun q => ?_) ?_ (by omega), NB_new h2 ?_ old (fun y y0 y1 => ?_), ?_⟩
    · show s.1 8 ≤ (hlsU (s.1 8) m i x).1 8; omega
    · show (hlsU (s.1 8) m i x).1 8 ≤ 3000; omega
    · show na (adds m ((s.1 8).toNat + 1) u) = pO ((hlsU (s.1 8) m i x).2 9 (hd (adds m ((s.1 8).toNat + 1) u)))
      rw [ah.1, ah.2, xh, q6.1, x9.1, xa]
      exact xi
    · rcases adds_mem hy with q | q
      · exact xd y q hyt
      · have := h1.lt hyt
        omega
    · have hy2 := h1.lt hy
      obtain ⟨c1, c2⟩ := xf y hy hyn
      obtain ⟨c3, c4, c5⟩ := q4 y ⟨by omega, by omega⟩
      exact ⟨(old y hy2.1 hy2.2.1).1, c4.1.trans c1.1, c4.2.trans c1.2, fun j j0 j3 hj => (c5 j j0 j3).trans (c2 j j0 j3 hj)⟩
    · rw [ah.1, xh]
      exact ⟨q6.2.2.2.1.trans xup.1, q6.2.2.2.2.trans xup.2⟩
    · rw [ah.1, xh]
      obtain ⟨u1, u2, u3⟩ := (AT_mem t h1.1 _ h3).2.2.2 q
      have ul := h1.lt u1
      have := pO_in (s.2 9 (s.2 12 (s.1 16)))
      exact ((q4 (s.2 12 (s.1 16)) ⟨by omega, by omega⟩).2.2 _ u2.1 (by omega)).trans (xpa q)
    · rw [ah.1, xh]
      exact (q5.1 15 (by decide)).trans xt
    · exact (q5.1 2 (by decide)).trans x2
    · have y1 : y < (hlsU (s.1 8) m i x).1 8 := y1
      by_cases e : y = s.1 8
      · rw [e]
        exact nok _ (q6.1.trans x9.1) (q6.2.1.trans x9.2.1) (q6.2.2.1.trans x9.2.2) ((q5.1 2 (by decide)).trans x2)
      · exact nodOk_hole (q7 y (by omega) (by omega)).1
    · show s.1 8 ∈ _
      have hm := hd_mem _ q1
      rw [ah.1, xh] at hm
      exact hl.2 _ hm
  have x2 : (replU (bornU s so v k) (s.1 16) (s.1 8)).1 2 = s.1 2 := (replU_e.1 2 (by decide)).trans (bornU_e.1 2 (by decide))
  by_cases ho : s.2 9 (s.1 16) = 0
  · have eU : putU s so v k = us (hlsU (s.1 8) (pO so).toNat 0 (replU (bornU s so v k) (s.1 16) (s.1 8))) 16 (s.1 8) := by unfold putU; rw [if_pos ho]
    have eT : putT s t so = rpT (s.1 16) (adds (pO so).toNat ((s.1 8).toNat + 1) (.index (s.1 8).toNat)) t := by unfold putT; rw [if_pos ho]
    unfold pfr at g7
    rw [if_pos ho] at g7
    rw [eU, eT]
    refine fin _ _ _ 0 n2 n1 (by simp [fl]) e8 rfl (by omega) n3 n5 n6 n7 x2 (fun y _ y1 => (n4 y y1).1) (fun y hy _ => ?_) (fun y hy hyt => ?_) (by show 1 + _ + _ ≤ _; omega) (by omega)
    · obtain ⟨c1, c2, c3⟩ := n4 y (h1.lt hy).2.1
      exact ⟨c2, fun i _ _ hi => c3 i hi⟩
    · have := List.mem_singleton.mp hy
      have := h1.lt hyt
      omega
  · have eU : putU s so v k = us (hlsU (s.1 8) (pO so - 1).toNat 1 (partU (replU (bornU s so v k) (s.1 16) (s.1 8)) (s.1 8) 0 (s.1 16))) 16 (s.1 8) := by unfold putU; rw [if_neg ho]
    have eT : putT s t so = rpT (s.1 16) (adds (pO so - 1).toNat ((s.1 8).toNat + 1) (.add (.index (s.1 8).toNat) (sq (s.1 16) t))) t := by unfold putT; rw [if_neg ho]
    unfold pfr at g7
    rw [if_neg ho] at g7
    have hn1 : 1 ≤ pO so := by omega
    rw [eU, eT]
    obtain ⟨a1, a2, a3, a4, a5, a6, a7⟩ := sq_ok h1.1 h1.2.1 h1.2.2.1 h3
    have hup := sq_up h1 h3
    have hO := partU_o (s := replU (bornU s so v k) (s.1 16) (s.1 8)) (b := s.1 8) (i := 0) (c := s.1 16) (by decide)
    have pe := partU_e (s := replU (bornU s so v k) (s.1 16) (s.1 8)) (b := s.1 8) (i := 0) (c := s.1 16)
    obtain ⟨pa1, pa2, pa3⟩ := partU_at (s := replU (bornU s so v k) (s.1 16) (s.1 8)) (b := s.1 8) (i := 0) (c := s.1 16)
    have w9 : ∀ y, y < s.1 8 → (partU (replU (bornU s so v k) (s.1 16) (s.1 8)) (s.1 8) 0 (s.1 16)).2 9 y = s.2 9 y := fun y hy => by rw [pe.2 9 (by decide)]; exact (n4 y hy).1.1
    -- cells of parts, of those born before
    have w14 : ∀ y i, 0 ≤ i → i < 3 → y < s.1 8 → 3 * y + i ≠ 3 * s.2 12 (s.1 16) + s.2 13 (s.1 16) → (partU (replU (bornU s so v k) (s.1 16) (s.1 8)) (s.1 8) 0 (s.1 16)).2 14 (3 * y + i) = s.2 14 (3 * y + i) := fun y i i0 i3 hy hi => by
      show (partU _ _ _ _).2 14 _ = _
      unfold partU
      rw [ua_2, if_neg (by omega), ua_2, if_neg (by omega), ua_2, if_neg (by omega)]
      exact (n4 y hy).2.2 i hi
    have w1213 : ∀ y, y ≠ s.1 16 → (partU (replU (bornU s so v k) (s.1 16) (s.1 8)) (s.1 8) 0 (s.1 16)).2 12 y = (replU (bornU s so v k) (s.1 16) (s.1 8)).2 12 y ∧ (partU (replU (bornU s so v k) (s.1 16) (s.1 8)) (s.1 8) 0 (s.1 16)).2 13 y = (replU (bornU s so v k) (s.1 16) (s.1 8)).2 13 y := fun y hy => by
      simp [partU, ua_2, hy]
    have hc8 : s.1 16 ≠ s.1 8 := by omega
    refine fin _ _ _ 1 n2 ⟨⟨by rw [e8]; show s.1 8 < (replU _ _ _).1 8; omega, ?_⟩, ?_, ?_, ?_, ?_, ?_, ?_⟩ ?_ e8 rfl (by omega) ?_ ?_ (fun q => ?_) n7 x2 (fun y _ y1 => ?_) (fun y hy hyn => ?_) (fun y hy hyt => ?_) ?_ (by omega)
    · rw [e8, pe.2 9 (by decide), n3.1]; omega
    · refine AT_cg (by show s.1 8 ≤ (replU _ _ _).1 8; omega) _ a1 a5 (fun x hx => ⟨w9 x (h1.lt (a4 x hx)).2.1, fun j j0 j1 _ => ?_⟩) (fun x hx hne => ?_)
      · have := pO_in (s.2 9 x)
        refine w14 x j j0 (by omega) (h1.lt (a4 x hx)).2.1 (fun q => ?_)
        rcases up_in h1 h3 with e | e
        · have := h1.lt (a4 x hx)
          have e13 : s.1 16 = hd t := Classical.byContradiction fun q => by
            have := h1.lt ((AT_mem t h1.1 _ h3).2.2.2 q).1
            omega
          have := h1.2.2.2.2.2.2.2
          rw [← e13] at this
          omega
        · have : x = s.2 12 (s.1 16) := by omega
          exact hup (by rw [← this]; exact hx)
      · rw [a3] at hne
        obtain ⟨c1, c2⟩ := w1213 x hne
        obtain ⟨-, c3, -⟩ := n4 x (h1.lt (a4 x hx)).2.1
        exact ⟨c1.trans c3.1, c2.trans c3.2⟩
    · unfold full at a2 ⊢
      rw [a2, a3, w9 _ hct.2.1]
    · show (0 : Int) < pO ((partU _ _ _ _).2 9 (((s.1 8).toNat : Nat) : Int))
      rw [e8, pe.2 9 (by decide), n3.1]; omega
    · show (partU _ _ _ _).2 14 (3 * (((s.1 8).toNat : Nat) : Int) + 0) = _
      rw [e8, a3]; exact pa1
    · rw [a3, show hd (Term.index (s.1 8).toNat) = s.1 8 from e8]; exact pa2
    · rw [a3]; exact pa3
    · refine List.nodup_append.mpr ⟨by simp [fl], a5, fun x hx y hy e => ?_⟩
      have := List.mem_singleton.mp hx
      have := h1.lt (a4 y hy)
      omega
    · rw [pe.2 9 (by decide), pe.2 10 (by decide), pe.2 11 (by decide)]; exact n3
    · obtain ⟨c1, c2⟩ := w1213 (s.1 8) (Ne.symm hc8)
      exact ⟨c1.trans n5.1, c2.trans n5.2⟩
    · obtain ⟨u1, u2, u3⟩ := (AT_mem t h1.1 _ h3).2.2.2 q
      have ul := h1.lt u1
      have := pO_in (s.2 9 (s.2 12 (s.1 16)))
      show (partU _ _ _ _).2 14 _ = _
      unfold partU
      rw [ua_2, if_neg (by omega), ua_2, if_neg (by omega), ua_2, if_neg (by omega)]
      exact n6 q
    · rw [pe.2 9 (by decide), pe.2 10 (by decide), pe.2 11 (by decide)]; exact (n4 y y1).1
    · have hyl := h1.lt hy
      have hne : y ≠ s.1 16 := fun q => hyn (by rw [q]; have := hd_mem _ a1; rw [a3] at this; exact this)
      obtain ⟨c1, c2⟩ := w1213 y hne
      obtain ⟨-, c3, -⟩ := n4 y hyl.2.1
      exact ⟨⟨c1.trans c3.1, c2.trans c3.2⟩, fun i i0 i3 hi => w14 y i i0 i3 hyl.2.1 hi⟩
    · rcases List.mem_append.mp hy with q | q
      · have := List.mem_singleton.mp q
        have := h1.lt hyt
        omega
      · exact q
    · have : (fl (Term.add (.index (s.1 8).toNat) (sq (s.1 16) t))).length = 1 + (fl (sq (s.1 16) t)).length := by show ([_] ++ fl (sq (s.1 16) t)).length = _; simp; omega
      omega
end
end
section
/-! undo(). -/
def undU (s : SM) (u : Snap) : SM := (fun y => if y = 15 then hd u.1 else if y = 16 then u.2.1 16 else if y = 35 then 1 else s.1 y, fun f y => if f = 10 ∧ y ∈ fl u.1 then u.2.2 10 y else s.2 f y)
/-- halfway: some nodes are as they were, some links are made again -/
def UM (s x : SM) (u : Snap) (p : List Int) (P : Int → Prop) : Prop := eqx [24] [10, 12, 13, 14] s x ∧ (∀ y, x.2 10 y = if y ∈ p then u.2.2 10 y else s.2 10 y) ∧ (∀ y, P y → x.2 12 y = u.2.2 12 y ∧ x.2 13 y = u.2.2 13 y) ∧ (∀ y, y ∈ p → ∀ j, 0 ≤ j → j < pO (s.2 9 y) → x.2 14 (3 * y + j) = u.2.2 14 (3 * y + j))
section
variable {iv : List (Int × Int)} {L : Nat} {h0 : MH} {s : SM} {t : Term} {d : Nat}
theorem undo_ok {F : Int → SM → Prop} {K : List Snap} (hK : KL s K) (hB : 0 ≤ s.1 8 ∧ s.1 8 ≤ 3000) (H1 : K = [] → F (-4) s) (H2 : ∀ (K0 : List Snap) (u : Snap) (v : SM), K = K0 ++ [u] → SX [24] [12, 13, 14] (undU s u) v → SHT v u.1 → KL v K0 → F K0.length v) : cm iv L h0 (d + 1) 101 [vr 307] s (qi F) := by
  obtain ⟨k1, k2, k3⟩ := id hK
  refine B101 ⟨fun e => ?_, fun e => H1 (List.length_eq_zero_iff.mp (by omega))⟩
  have hlen : 0 < K.length := by omega
  obtain ⟨K0, u, rfl⟩ : ∃ K0 u, K = K0 ++ [u] := ⟨K.dropLast, K.getLast (fun q => by rw [q] at hlen; exact absurd hlen (by decide)), (List.dropLast_concat_getLast _).symm⟩
  have hl : (K0 ++ [u]).length = K0.length + 1 := by simp
  have e24 : s.1 24 - 1 = K0.length := by omega
  obtain ⟨⟨r1, r2, r3⟩, hP⟩ := k3 K0.length u (by simp)
  obtain ⟨⟨p1, p2, p3, p4⟩, p5, p6, p7, p8⟩ := hP
  refine ⟨by omega, ?_⟩
  rw [e24]
  have hmem := AT_mem u.1 p1
  -- what is written of a node's place among the births
  have hfin : ∀ x, UM s x u (fl u.1) (fun y => y ∈ fl u.1 ∧ y ≠ hd u.1) → x.1 24 = K0.length → F K0.length (us (us (ua (ua (us x 15 (hd u.1)) 12 (hd u.1) (-9)) 13 (hd u.1) (-9)) 16 (u.2.1 16)) 35 1) := fun x hx h24 => by
    obtain ⟨x1, x2, x3, x4⟩ := hx
    refine H2 K0 u _ rfl ⟨fun y a1 a2 => ?_, fun f a1 a2 i a3 => ?_⟩ ?_ ?_
    · show (if y = 35 then 1 else if y = 16 then u.2.1 16 else if y = 15 then hd u.1 else x.1 y) = if y = 15 then hd u.1 else if y = 16 then u.2.1 16 else if y = 35 then 1 else s.1 y
      rw [x1.1 y a2]
      by_cases e1 : y = 35
      · subst e1; rfl
      · rw [if_neg e1]
        by_cases e2 : y = 16
        · subst e2; rfl
        · rw [if_neg e2, if_neg e2, if_neg e1]
    · simp at a2
      show (us (us (ua (ua (us x 15 (hd u.1)) 12 (hd u.1) (-9)) 13 (hd u.1) (-9)) 16 (u.2.1 16)) 35 1).2 f i = if f = 10 ∧ i ∈ fl u.1 then u.2.2 10 i else s.2 f i
      simp only [us_2, ua_2]
      rw [if_neg (by omega), if_neg (by omega)]
      by_cases e1 : f = 10
      · subst e1
        rw [x2]
        by_cases e2 : i ∈ fl u.1
        · rw [if_pos e2, if_pos ⟨rfl, e2⟩]
        · rw [if_neg e2, if_neg (fun q => e2 q.2)]
      · rw [if_neg (fun q => e1 q.1), x1.2 f (by simp; omega)]
    · have hm := hd_mem _ p1
      have e8 : x.1 8 = s.1 8 := x1.1 8 (by decide)
      have e9 : x.2 9 = s.2 9 := x1.2 9 (by decide)
      refine ⟨AT_cg (by show s.1 8 ≤ x.1 8; omega) _ p1 p3 (fun y hy => ⟨?_, fun j j0 j1 _ => ?_⟩) (fun y hy hne => ?_), ?_, p3, p4, by show 0 ≤ x.1 8 ∧ x.1 8 ≤ 3000; omega, rfl, ?_, ?_⟩
      · show x.2 9 y = s.2 9 y
        rw [e9]
      · exact x4 y hy j j0 j1
      · simp only [us_2, ua_2]
        rw [if_neg (by omega), if_neg (by omega), if_neg (by omega), if_neg (by omega)]
        exact x3 y ⟨hy, hne⟩
      · show na u.1 = pO (x.2 9 (hd u.1))
        rw [e9]
        exact p2
      · simp [us_2, ua_2]
      · simp [us_2, ua_2]
    · refine ⟨h24, by have := k2; omega, fun i w hi => ?_⟩
      obtain ⟨q1, q2⟩ := k3 i w (by rw [List.getElem?_append_left (List.getElem?_eq_some_iff.mp hi).1]; exact hi)
      have e9 : x.2 9 = s.2 9 := x1.2 9 (by decide)
      have rr : ∀ f, f ≠ 10 ∧ f ≠ 12 ∧ f ≠ 13 ∧ f ≠ 14 → (us (us (ua (ua (us x 15 (hd u.1)) 12 (hd u.1) (-9)) 13 (hd u.1) (-9)) 16 (u.2.1 16)) 35 1).2 f = s.2 f := fun f hf => by
        funext j
        simp only [us_2, ua_2]
        rw [if_neg (by omega), if_neg (by omega), x1.2 f (by simp; omega)]
      refine ⟨KR_cg q1 q2.1.2.2.2 (by rw [rr 25 (by decide)]) (by rw [rr 26 (by decide)]) (fun y _ => by rw [rr 9 (by decide)]) (fun j _ _ => ⟨by rw [rr 27 (by decide)], by rw [rr 28 (by decide)]⟩) (fun j _ _ => by rw [rr 29 (by decide)]), KP_up q2 (by show s.1 8 ≤ x.1 8; rw [x1.1 8 (by decide)]; exact Int.le_refl _) (fun y _ _ => by rw [rr 9 (by decide)])⟩
  -- the links of one node
  have inner : ∀ (p m : List Int) (b : Int) (G : SM → Prop), fl u.1 = p ++ b :: m → (∀ x, UM s x u (p ++ [b]) (fun y => y ∈ fl u.1 ∧ y ≠ hd u.1 ∧ u.2.2 12 y ∈ p ++ [b]) → x.1 24 = K0.length → wm iv L h0 (d + 1) 101 22 [lr 307, li (p.length + 1)] [] x (qi F)) →
      ∀ (n : Nat) (i : Int) (x : SM), 0 ≤ i → i + n = pO (s.2 9 b) → eqx [24] [10, 12, 13, 14] s x → (∀ y, x.2 10 y = if y ∈ p ++ [b] then u.2.2 10 y else s.2 10 y) → (∀ y, (y ∈ fl u.1 ∧ y ≠ hd u.1 ∧ (u.2.2 12 y ∈ p ∨ (u.2.2 12 y = b ∧ u.2.2 13 y < i))) → x.2 12 y = u.2.2 12 y ∧ x.2 13 y = u.2.2 13 y) → (∀ y, y ∈ p → ∀ j, 0 ≤ j → j < pO (s.2 9 y) → x.2 14 (3 * y + j) = u.2.2 14 (3 * y + j)) → (∀ j, 0 ≤ j → j < i → x.2 14 (3 * b + j) = u.2.2 14 (3 * b + j)) → x.1 24 = K0.length →
      wm iv L h0 (d + 1) 101 72 [lr 307, li p.length, li b, li i] [] x (qi F) := by
    intro p m b G e hnx n
    have hb : b ∈ fl u.1 := by rw [e]; simp
    have hbl := (hmem b hb).1
    have hpl : (p.length : Int) < 60 := by
      have := p4
      rw [e] at this
      simp at this
      omega
    have hbp : b ∉ p := fun q => by
      rw [e] at p3
      exact (List.nodup_append.mp p3).2.2 b q b (List.mem_cons_self ..) rfl
    induction n with
    | zero =>
      intro i x i0 hi x1 x2 x3 x4 x5 x6
      have e9 : x.2 9 = s.2 9 := x1.2 9 (by decide)
      have m9 := (hmem b hb).2.1
      refine B101_72 ⟨by omega, by rw [e9]; exact m9, fun _ => ⟨by omega, hnx x ⟨x1, x2, fun y hy => x3 y ⟨hy.1, hy.2.1, ?_⟩, fun y hy => ?_⟩ x6⟩, fun q => by rw [e9] at q; omega⟩
      · rcases List.mem_append.mp hy.2.2 with q | q
        · exact Or.inl q
        · have q := List.mem_singleton.mp q
          obtain ⟨z1, z2, z3⟩ := (hmem y hy.1).2.2.2 hy.2.1
          rw [q] at z2
          exact Or.inr ⟨q, by omega⟩
      · rcases List.mem_append.mp hy with q | q
        · exact x4 y q
        · rw [List.mem_singleton.mp q]
          exact fun j j0 j1 => x5 j j0 (by omega)
    | succ n ih =>
      intro i x i0 hi x1 x2 x3 x4 x5 x6
      have e9 : x.2 9 = s.2 9 := x1.2 9 (by decide)
      have m9 := (hmem b hb).2.1
      have hpo := pO_in (s.2 9 b)
      refine B101_72 ⟨by omega, by rw [e9]; exact m9, fun q => by rw [e9] at q; omega, fun _ => ?_⟩
      obtain ⟨c1, c2, c3⟩ := (hmem b hb).2.2.1 i i0 (by omega) (fun q => by have := p2; unfold full at this; rw [this, ← q]; omega)
      have hcl := (hmem _ c1).1
      -- what is kept of this part
      have e29 : x.2 29 (240 * (K0.length : Int) + 3 * p.length + i) = u.2.2 14 (3 * b + i) := by
        rw [x1.2 29 (by decide)]
        have := (r3 p.length b (by rw [e]; simp)).2.2 i i0 (by omega)
        rw [← this]
        show s.2 29 _ = s.2 29 (240 * (K0.length : Int) + (3 * (p.length : Int) + i))
        rw [show 240 * (K0.length : Int) + 3 * (p.length : Int) + i = 240 * (K0.length : Int) + (3 * (p.length : Int) + i) by omega]
      rw [x6]
      have hk20 : (K0.length : Int) < 20 := by omega
      rw [e29]
      refine ⟨by omega, by omega, by omega, by omega, by omega, setPart_ok (by omega) (by omega) (by omega) ⟨by omega, ?_⟩⟩
      have pe := partU_e (s := x) (b := b) (i := i) (c := u.2.2 14 (3 * b + i))
      refine ih (i + 1) (partU x b i (u.2.2 14 (3 * b + i))) (by omega) (by omega) (x1.tr (pe.up (fun _ q => by cases q) (fun y q => by simp at q ⊢; omega))) (fun y => by rw [pe.2 10 (by decide)]; exact x2 y) (fun y hy => ?_) (fun y hy j j0 j1 => ?_) (fun j j0 j1 => ?_) x6
      · by_cases ey : y = u.2.2 14 (3 * b + i)
        · subst ey
          rw [c2, c3]
          obtain ⟨-, q1, q2⟩ := partU_at (s := x) (b := b) (i := i) (c := u.2.2 14 (3 * b + i))
          exact ⟨q1, q2⟩
        · have hne : (partU x b i (u.2.2 14 (3 * b + i))).2 12 y = x.2 12 y ∧ (partU x b i (u.2.2 14 (3 * b + i))).2 13 y = x.2 13 y := by
            simp [partU, ua_2, ey]
          rw [hne.1, hne.2]
          refine x3 y ⟨hy.1, hy.2.1, ?_⟩
          rcases hy.2.2 with q | ⟨q1, q2⟩
          · exact Or.inl q
          · refine Or.inr ⟨q1, ?_⟩
            obtain ⟨z1, z2, z3⟩ := (hmem y hy.1).2.2.2 hy.2.1
            by_cases q3 : u.2.2 13 y = i
            · exfalso
              rw [q1, q3] at z3
              exact ey z3.symm
            · omega
      · have hyb : y ≠ b := fun q => hbp (by rw [← q]; exact hy)
        have := pO_in (s.2 9 y)
        unfold partU
        rw [ua_2, if_neg (by omega), ua_2, if_neg (by omega), ua_2, if_neg (by omega)]
        exact x4 y hy j j0 j1
      · unfold partU
        rw [ua_2, if_neg (by omega), ua_2, if_neg (by omega), ua_2]
        by_cases q : j = i
        · rw [if_pos ⟨rfl, by omega⟩, q]
        · rw [if_neg (by omega)]
          exact x5 j j0 (by omega)
  have outer : ∀ (m p : List Int) (x : SM), fl u.1 = p ++ m → UM s x u p (fun y => y ∈ fl u.1 ∧ y ≠ hd u.1 ∧ u.2.2 12 y ∈ p) → x.1 24 = K0.length → wm iv L h0 (d + 1) 101 22 [lr 307, li p.length] [] x (qi F) := by
    intro m
    induction m with
    | nil =>
      intro p x e hx h24
      have ep : p = fl u.1 := by rw [e]; simp
      have e25 : x.2 25 K0.length = (fl u.1).length := by rw [hx.1.2 25 (by decide)]; exact r1
      have hk20 : (K0.length : Int) < 20 := by omega
      have h27 : x.2 27 (80 * (K0.length : Int)) = hd u.1 := by
        rw [hx.1.2 27 (by decide)]
        obtain ⟨r, er⟩ := fl_hd _ p1
        have := (r3 0 (hd u.1) (by rw [er]; rfl)).1
        rw [← this]
        show s.2 27 _ = s.2 27 (80 * (K0.length : Int) + ((0 : Nat) : Int))
        rw [show 80 * (K0.length : Int) + ((0 : Nat) : Int) = 80 * (K0.length : Int) by omega]
      have hm := (hmem _ (hd_mem _ p1)).1
      refine B101_22 ⟨by omega, fun q => ?_, fun q => by rw [h24, e25, ep] at q; omega⟩
      rw [h24, h27, show x.2 26 K0.length = u.2.1 16 from by rw [hx.1.2 26 (by decide)]; exact r2]
      refine ⟨by omega, by omega, by omega, hfin x ⟨hx.1, by rw [← ep]; exact hx.2.1, fun y hy => hx.2.2.1 y ⟨hy.1, hy.2, ?_⟩, by rw [← ep]; exact hx.2.2.2⟩ h24⟩
      rw [ep]
      exact ((hmem y hy.1).2.2.2 hy.2).1
    | cons b m ih =>
      intro p x e hx h24
      have hb : b ∈ fl u.1 := by rw [e]; simp
      have hbl := (hmem b hb).1
      have hpl : p.length < 60 ∧ p.length < (fl u.1).length := by
        have := p4
        rw [e] at this ⊢
        simp at this ⊢
        omega
      have hk20 : (K0.length : Int) < 20 := by omega
      have e25 : x.2 25 K0.length = (fl u.1).length := by rw [hx.1.2 25 (by decide)]; exact r1
      obtain ⟨s1, s2, s3⟩ := r3 p.length b (by rw [e]; simp)
      have e27 : x.2 27 (80 * (K0.length : Int) + p.length) = b := by rw [hx.1.2 27 (by decide)]; exact s1
      have e28 : x.2 28 (80 * (K0.length : Int) + p.length) = u.2.2 10 b := by rw [hx.1.2 28 (by decide)]; exact s2
      refine B101_22 ⟨by omega, fun q => by rw [h24, e25] at q; omega, fun q => ?_⟩
      rw [h24, e27, e28]
      refine ⟨by omega, by omega, by omega, by omega, ?_⟩
      have e' := e
      rw [app1] at e'
      have e1 : ((p ++ [b]).length : Int) = p.length + 1 := by simp
      refine inner p m b (fun _ => True) e (fun y hy h24' => ?_) (pO (s.2 9 b)).toNat 0 _ (by omega) (by have := pO_in (s.2 9 b); omega) (eqx_ua hx.1 (by decide)) (fun y => ?_) (fun y hy => ?_) (fun y hy j j0 j1 => hx.2.2.2 y hy j j0 j1) (fun j j0 j1 => by omega) h24
      · have := ih (p ++ [b]) y e' hy h24'
        rw [e1] at this
        exact this
      · rw [ua_2]
        by_cases q : y = b
        · rw [if_pos ⟨rfl, q⟩, if_pos (by rw [q]; simp), q]
        · rw [if_neg (by omega), hx.2.1]
          by_cases q2 : y ∈ p
          · rw [if_pos q2, if_pos (List.mem_append_left _ q2)]
          · rw [if_neg q2, if_neg (by simp [q2, q])]
      · refine hx.2.2.1 y ⟨hy.1, hy.2.1, ?_⟩
        rcases hy.2.2 with q | ⟨q1, q2⟩
        · exact q
        · obtain ⟨z1, z2, z3⟩ := (hmem y hy.1).2.2.2 hy.2.1
          omega
  refine outer (fl u.1) [] _ rfl ⟨eqx_us eqx.rf (by decide), fun y => by rw [if_neg (by simp)]; rfl, fun y hy => absurd hy.2.2 (by simp), fun y hy => absurd hy (by simp)⟩ rfl
theorem undo_aft {u : Snap} {v : SM} (hN : NB s) (h8 : s.1 8 ≤ 3000) (hP : KP s u) (hx : SX [24] [12, 13, 14] (undU s u) v) (hT : SHT v u.1) : AFT v u.1 := by
  refine ⟨hT, fun x x0 x1 => ?_, by rw [hx.1 16 (by decide) (by decide)]; exact hP.2.1⟩
  have e8 : v.1 8 = s.1 8 := hx.1 8 (by decide) (by decide)
  rw [e8] at x1
  have hi : ∀ f, f = 9 ∨ f = 10 ∨ f = 11 → ¬ scI f x := fun f q => by unfold scI; omega
  rw [hx.2 9 (by decide) (by decide) x (hi 9 (by decide)), hx.2 10 (by decide) (by decide) x (hi 10 (by decide)), hx.2 11 (by decide) (by decide) x (hi 11 (by decide)), hx.1 2 (by decide) (by decide)]
  have hn := hN x x0 x1
  show (0 ≤ s.2 9 x ∧ s.2 9 x < 16) ∧ ((s.2 9 x = 3 ∨ s.2 9 x = 8 ∨ s.2 9 x = 10) → 0 ≤ (undU s u).2 10 x ∧ (undU s u).2 10 x < 26) ∧ (s.2 9 x = 2 → (undU s u).2 10 x = 0 ∨ (undU s u).2 10 x = 1) ∧ ((s.2 9 x = 8 ∨ s.2 9 x = 15) → 0 ≤ s.2 11 x ∧ s.2 11 x < s.1 2)
  by_cases e : x ∈ fl u.1
  · rw [show (undU s u).2 10 x = u.2.2 10 x from if_pos ⟨rfl, e⟩]
    have := hP.2.2.2.2 x e
    exact ⟨hn.1, this.1, this.2, hn.2.2.2⟩
  · rw [show (undU s u).2 10 x = s.2 10 x from if_neg (fun q => e q.2)]
    exact hn
end
end
section
/-! rename(), move(). -/
/-- a NAME that the node at the cursor binds -/
def isB (s : SM) (y : Int) : Bool := decide (s.2 9 y = 3) && decide (bds s y (s.2 10 y) = s.1 16)
def nuR (s : SM) (v : Int) : Int → Int := fun y => if y = s.1 16 then v else s.2 10 y
def bdR (s : SM) (v b x : Int) : Int := bnd (s.2 9) (nuR s v) (s.2 12) (s.2 13) 70 b x
/-- a NAME that would be bound otherwise -/
def rnb (s : SM) (v y : Int) : Bool := decide (s.2 9 y = 3) && (decide (bdR s v y (if isB s y then v else s.2 10 y) = s.1 16) != isB s y)
def rnU (s : SM) (t : Term) (v : Int) : SM := (s.1, fun f y => if f = 10 ∧ (y = s.1 16 ∨ (y ∈ fl t ∧ isB s y = true)) then v else s.2 f y)
def renA (s : SM) (t : Term) (v : Int) : Int := if 0 ≤ v ∧ v ≤ 25 then (if s.2 9 (s.1 16) = 8 ∨ s.2 9 (s.1 16) = 10 then (if (fl t).any (rnb s v) = true then -6 else cntp (isB s) (fl t)) else -4) else -1
def renOk (s : SM) (t : Term) (v : Int) : Prop := (0 ≤ v ∧ v ≤ 25) ∧ (s.2 9 (s.1 16) = 8 ∨ s.2 9 (s.1 16) = 10) ∧ (fl t).any (rnb s v) = false
theorem bnd_nu {so nu up pl : Int → Int} : ∀ (n : Nat) (b x : Int), bnd so nu up pl n b x = -9 ∨ nu (bnd so nu up pl n b x) = x := by
  intro n
  induction n with
  | zero => intro b x; exact Or.inl rfl
  | succ n ih =>
    intro b x
    unfold bnd
    by_cases e : up b = -9
    · rw [if_pos e]; exact Or.inl rfl
    · rw [if_neg e]
      by_cases e2 : (so (up b) = 8 ∨ (so (up b) = 10 ∧ pl b = 1)) ∧ nu (up b) = x
      · rw [if_pos e2]; exact Or.inr e2.2
      · rw [if_neg e2]; exact ih (up b) x
theorem bnd_rng {so nu up pl : Int → Int} : ∀ (n : Nat) (b x : Int), DP up n b → bnd so nu up pl n b x = -9 ∨ ((0 ≤ bnd so nu up pl n b x ∧ bnd so nu up pl n b x < 3004) ∧ DP up n (bnd so nu up pl n b x)) := by
  intro n
  induction n with
  | zero => intro b x h; exact h.elim
  | succ n ih =>
    intro b x h
    unfold bnd
    by_cases e : up b = -9
    · rw [if_pos e]; exact Or.inl rfl
    · obtain ⟨h1, h2⟩ := h.resolve_left e
      rw [if_neg e]
      by_cases e2 : (so (up b) = 8 ∨ (so (up b) = 10 ∧ pl b = 1)) ∧ nu (up b) = x
      · rw [if_pos e2]; exact Or.inr ⟨h1, DP_up n (n + 1) _ (by omega) h2⟩
      · rw [if_neg e2]
        exact (ih (up b) x h2).imp id (fun q => ⟨q.1, DP_up n (n + 1) _ (by omega) q.2⟩)
theorem cntp_app (P : Int → Bool) : ∀ (l m : List Int), cntp P (l ++ m) = cntp P l + cntp P m := by
  intro l
  induction l with
  | nil => intro m; show cntp P m = 0 + cntp P m; omega
  | cons x r ih =>
    intro m
    show (if P x then 1 else 0) + cntp P (r ++ m) = (if P x then 1 else 0) + cntp P r + cntp P m
    rw [ih]; omega
section
variable {iv : List (Int × Int)} {L : Nat} {h0 : MH} {s : SM} {t : Term} {d : Nat}
theorem rename_ok {v : Int} {F : Int → SM → Prop} {K : List Snap} (h : SHT s t) (hN : NB s) (hc : s.1 16 ∈ fl t) (hK : KL s K) (hD : 100 ≤ d) (H1 : ∀ w, ¬ renOk s t v → SX [] [] s w → F (renA s t v) w) (H2 : renOk s t v → ∀ w, DONE s t K 0 (rnU s t v) w → F (renA s t v) w) : cm iv L h0 d 111 [vr 307, vi v] s (qi F) := by
  obtain ⟨d, rfl⟩ : ∃ k, d = k + 2 := ⟨d - 2, by omega⟩
  have hct := h.lt hc
  have hDP := fun x hx => DP_up 61 70 _ (by decide) (DP_tree h x hx)
  unfold renA at H1 H2
  have main : 0 ≤ v ∧ v ≤ 25 → (s.2 9 (s.1 16) = 8 ∨ s.2 9 (s.1 16) = 10) → cm iv L h0 (d + 1) 99 [vr 307] s (qv fun s2 => (0 ≤ s2.1 16 ∧ s2.1 16 < 3004) ∧ wm iv L h0 (d + 1 + 1) 111 62 [lr 307, li v, li (s2.2 10 (s2.1 16)), li 0, li 0] [] s2 (qi F)) := fun hv hso => by
    refine beginAct_ok h (by omega) (fun w w1 w2 w3 => ?_)
    have w16 : w.1 16 = s.1 16 := w1.1 16 (by decide)
    have w9 : w.2 9 = s.2 9 := w1.2 9 (by decide)
    have w10 : w.2 10 = s.2 10 := w1.2 10 (by decide)
    have w12 : w.2 12 = s.2 12 := w1.2 12 (by decide)
    have w13 : w.2 13 = s.2 13 := w1.2 13 (by decide)
    rw [w16, w10]
    refine ⟨by omega, ?_⟩
    -- the last loop: names are written
    have lst : (fl t).any (rnb s v) = false → ∀ (m p : List Int) (x : SM), fl t = p ++ m → eqx [] [10, 36] w x → (∀ (k : Nat) (y : Int), (fl t)[k]? = some y → x.2 36 k = if isB s y then 1 else 0) → (∀ y, x.2 10 y = if y = s.1 16 ∨ (y ∈ p ∧ isB s y = true) then v else s.2 10 y) → wm iv L h0 (d + 1 + 1) 111 317 [lr 307, li v, ln, li (cntp (isB s) (fl t)), ln, li p.length] [] x (qi F) := by
      intro hany m
      induction m with
      | nil =>
        intro p x e x1 x2 x3
        have ep : p = fl t := by rw [e]; simp
        have hl := LR_nil w2 e
        refine B111_317 ⟨fun _ => ?_, fun q => by rw [x1.1 18 (by decide)] at q; omega⟩
        refine act_end (s' := rnU s t v) h hN hc hK w1 w3 (x1.up (fun _ q => by cases q) (fun y q => by simp at q ⊢; omega)) ?_ ?_ ⟨fun y a1 a2 => ?_, fun f a1 a2 i a3 => ?_⟩ (fun u u1 u2 => ?_)
        · rw [x1.1 8 (by decide), w1.1 8 (by decide)]; exact Int.le_refl _
        · intro y _ _
          rw [x1.2 9 (by decide), w9]
        · rw [x1.1 y (by simp)]
          exact w1.1 y (by simp [scN] at a1; simp; omega)
        · show x.2 f i = if f = 10 ∧ (i = s.1 16 ∨ (i ∈ fl t ∧ isB s i = true)) then v else s.2 f i
          by_cases e1 : f = 10
          · subst e1
            rw [x3, ep]
            by_cases e2 : i = s.1 16 ∨ (i ∈ fl t ∧ isB s i = true)
            · rw [if_pos e2, if_pos ⟨rfl, e2⟩]
            · rw [if_neg e2, if_neg (fun q => e2 q.2)]
          · rw [if_neg (fun q => e1 q.1), x1.2 f (by simp [scR] at a1; simp; omega), w1.2 f (by simp [scR] at a1; simp; omega)]
        · have := H2 ⟨hv, hso, hany⟩ u ⟨u1, u2⟩
          rw [if_pos hv, if_pos hso, if_neg (by rw [hany]; decide)] at this
          exact this
      | cons y m ih =>
        intro p x e x1 x2 x3
        obtain ⟨c1, c2⟩ := LR_cons w2 e
        obtain ⟨c3, hy⟩ := h.fl80 e
        have hyl := h.lt hy
        have e' := e
        rw [app1] at e'
        have e1 : ((p ++ [y]).length : Int) = p.length + 1 := by simp
        have e36 := x2 p.length y (by rw [e]; simp)
        have e18 : x.1 18 = w.1 18 := x1.1 18 (by decide)
        have e17 : x.2 17 = w.2 17 := x1.2 17 (by decide)
        have nx : ∀ z, (∀ y', (ua x 10 y z).2 10 y' = if y' = s.1 16 ∨ (y' ∈ p ++ [y] ∧ isB s y' = true) then v else s.2 10 y') → wm iv L h0 (d + 1 + 1) 111 317 [lr 307, li v, ln, li (cntp (isB s) (fl t)), ln, li (p.length + 1)] [] (ua x 10 y z) (qi F) := fun z hz => by
          have := ih (p ++ [y]) (ua x 10 y z) e' (eqx_ua x1 (by decide)) (fun k y' hk => x2 k y' hk) hz
          rw [e1] at this
          exact this
        refine B111_317 ⟨fun q => by omega, fun _ => ⟨by omega, fun q => ?_, fun q => ?_⟩⟩
        · rw [e17, c1]
          rw [e36] at q
          refine ⟨by omega, by omega, nx _ (fun y' => ?_)⟩
          have hb : isB s y = false := by cases hb : isB s y with
            | false => rfl
            | true => rw [hb] at q; exact absurd q (by decide)
          rw [ua_2]
          by_cases ey : y' = y
          · subst ey
            rw [if_pos ⟨rfl, rfl⟩, x3, hb]
            by_cases e4 : y' = s.1 16
            · rw [if_pos (Or.inl e4), if_pos (Or.inl e4)]
            · rw [if_neg (by simp [e4]), if_neg (by simp [e4])]
          · rw [if_neg (by omega), x3]
            by_cases e4 : y' = s.1 16 ∨ (y' ∈ p ∧ isB s y' = true)
            · rw [if_pos e4, if_pos (e4.imp id (fun q => ⟨List.mem_append_left _ q.1, q.2⟩))]
            · rw [if_neg e4, if_neg (fun q => e4 (q.imp id (fun q => ⟨by simpa [ey] using q.1, q.2⟩)))]
        · rw [e17, c1]
          rw [e36] at q
          refine ⟨by omega, by omega, nx _ (fun y' => ?_)⟩
          have hb : isB s y = true := by cases hb : isB s y with
            | true => rfl
            | false => rw [hb] at q; exact absurd rfl q
          rw [ua_2]
          by_cases ey : y' = y
          · subst ey
            rw [if_pos ⟨rfl, rfl⟩, if_pos (Or.inr ⟨by simp, hb⟩)]
          · rw [if_neg (by omega), x3]
            by_cases e4 : y' = s.1 16 ∨ (y' ∈ p ∧ isB s y' = true)
            · rw [if_pos e4, if_pos (e4.imp id (fun q => ⟨List.mem_append_left _ q.1, q.2⟩))]
            · rw [if_neg e4, if_neg (fun q => e4 (q.imp id (fun q => ⟨by simpa [ey] using q.1, q.2⟩)))]
    -- the second one: whether a name is caught
    have snd : ∀ (x : SM), eqx [] [10, 36] w x → (∀ (k : Nat) (y : Int), (fl t)[k]? = some y → x.2 36 k = if isB s y then 1 else 0) → x.2 10 = nuR s v → ∀ (m p : List Int) (b : Bool), fl t = p ++ m → (fl t).any (rnb s v) = (b || m.any (rnb s v)) → wm iv L h0 (d + 1 + 1) 111 174 [lr 307, li v, li (s.2 10 (s.1 16)), li (cntp (isB s) (fl t)), li (if b then 1 else 0), li p.length] [] x (qi F) := by
      intro x x1 x2 x3 m
      have e18 : x.1 18 = w.1 18 := x1.1 18 (by decide)
      have e17 : x.2 17 = w.2 17 := x1.2 17 (by decide)
      have e16 : x.1 16 = s.1 16 := (x1.1 16 (by decide)).trans w16
      have e9 : x.2 9 = s.2 9 := (x1.2 9 (by decide)).trans w9
      have e12 : x.2 12 = s.2 12 := (x1.2 12 (by decide)).trans w12
      have e13 : x.2 13 = s.2 13 := (x1.2 13 (by decide)).trans w13
      induction m with
      | nil =>
        intro p b e hb
        have hl := LR_nil w2 e
        simp at hb
        refine B111_174 ⟨fun _ => ⟨fun q => ?_, fun q => ?_⟩, fun q => by rw [e18] at q; omega⟩
        · have hb0 : b = false := by cases b with
            | false => rfl
            | true => exact absurd q (by decide)
          rw [hb0] at hb
          refine lst (by simpa using hb) (fl t) [] x rfl x1 x2 (fun y => ?_)
          rw [x3]
          show (if y = s.1 16 then v else s.2 10 y) = _
          by_cases e4 : y = s.1 16
          · rw [if_pos e4, if_pos (Or.inl e4)]
          · rw [if_neg e4, if_neg (by simp [e4])]
        · have hb1 : b = true := by cases b with
            | true => rfl
            | false => exact absurd rfl q
          rw [hb1] at hb
          have hany : (fl t).any (rnb s v) = true := by simpa using hb
          rw [e16]
          refine ⟨by omega, ?_⟩
          have hx : SX [] [] s (ua x 10 (s.1 16) (s.2 10 (s.1 16))) := ⟨fun y a1 a2 => ?_, fun f a1 a2 i a3 => ?_⟩
          · have := H1 _ (fun q => by rw [q.2.2] at hany; cases hany) hx
            rw [if_pos hv, if_pos hso, if_pos hany] at this
            exact this
          · show x.1 y = s.1 y
            rw [x1.1 y (by simp)]
            exact w1.1 y (by simp [scN] at a1; simp; omega)
          · rw [ua_2]
            by_cases e1 : f = 10
            · subst e1
              by_cases e2 : i = s.1 16
              · rw [if_pos ⟨rfl, e2⟩, e2]
              · rw [if_neg (by omega), x3]
                exact if_neg e2
            · rw [if_neg (by omega), x1.2 f (by simp [scR] at a1; simp; omega), w1.2 f (by simp [scR] at a1; simp; omega)]
      | cons y m ih =>
        intro p b e hb
        obtain ⟨c1, c2⟩ := LR_cons w2 e
        obtain ⟨c3, hy⟩ := h.fl80 e
        have hyl := h.lt hy
        have e' := e
        rw [app1] at e'
        have e1 : ((p ++ [y]).length : Int) = p.length + 1 := by simp
        have e36 := x2 p.length y (by rw [e]; simp)
        have hb2 : (fl t).any (rnb s v) = ((b || rnb s v y) || m.any (rnb s v)) := by rw [hb]; simp [Bool.or_assoc]
        have nx : ∀ z : Int, z = (if (b || rnb s v y) then 1 else 0) → wm iv L h0 (d + 1 + 1) 111 174 [lr 307, li v, li (s.2 10 (s.1 16)), li (cntp (isB s) (fl t)), li z, li (p.length + 1)] [] x (qi F) := fun z hz => by
          have := ih (p ++ [y]) (b || rnb s v y) e' hb2
          rw [e1] at this
          rw [hz]
          exact this
        have one : b = true → (1 : Int) = if (b || rnb s v y) then 1 else 0 := fun q => by rw [q]; rfl
        have bb : ∀ b' : Bool, ((if b' then (1 : Int) else 0) ≠ 0 → b' = true) ∧ ((if b' then (1 : Int) else 0) = 0 → b' = false) := fun b' => by cases b' <;> simp
        -- what comes of a name's binder
        have nam : s.2 9 y = 3 → ∀ r : Int, r = bdR s v y (if isB s y then v else s.2 10 y) → ((r ≠ s.1 16 → (((if b then (1 : Int) else 0) ≠ 0 → (-2147483648 ≤ (p.length : Int) + 1 ∧ (p.length : Int) + 1 ≤ 2147483647) ∧ wm iv L h0 (d + 1 + 1) 111 174 [lr 307, li v, li (s.2 10 (s.1 16)), li (cntp (isB s) (fl t)), li 1, li (p.length + 1)] [] x (qi F)) ∧ ((if b then (1 : Int) else 0) = 0 → (0 ≤ y ∧ y < 3004) ∧ ((s.2 9 y ≠ 3 → (-2147483648 ≤ (p.length : Int) + 1 ∧ (p.length : Int) + 1 ≤ 2147483647) ∧ wm iv L h0 (d + 1 + 1) 111 174 [lr 307, li v, li (s.2 10 (s.1 16)), li (cntp (isB s) (fl t)), li 0, li (p.length + 1)] [] x (qi F)) ∧ (s.2 9 y = 3 → ((0 = x.2 36 p.length → (-2147483648 ≤ (p.length : Int) + 1 ∧ (p.length : Int) + 1 ≤ 2147483647) ∧ wm iv L h0 (d + 1 + 1) 111 174 [lr 307, li v, li (s.2 10 (s.1 16)), li (cntp (isB s) (fl t)), li 0, li (p.length + 1)] [] x (qi F)) ∧ (0 ≠ x.2 36 p.length → (-2147483648 ≤ (p.length : Int) + 1 ∧ (p.length : Int) + 1 ≤ 2147483647) ∧ wm iv L h0 (d + 1 + 1) 111 174 [lr 307, li v, li (s.2 10 (s.1 16)), li (cntp (isB s) (fl t)), li 1, li (p.length + 1)] [] x (qi F)))))))) ∧
            (r = s.1 16 → (((if b then (1 : Int) else 0) ≠ 0 → (-2147483648 ≤ (p.length : Int) + 1 ∧ (p.length : Int) + 1 ≤ 2147483647) ∧ wm iv L h0 (d + 1 + 1) 111 174 [lr 307, li v, li (s.2 10 (s.1 16)), li (cntp (isB s) (fl t)), li 1, li (p.length + 1)] [] x (qi F)) ∧ ((if b then (1 : Int) else 0) = 0 → (0 ≤ y ∧ y < 3004) ∧ ((s.2 9 y ≠ 3 → (-2147483648 ≤ (p.length : Int) + 1 ∧ (p.length : Int) + 1 ≤ 2147483647) ∧ wm iv L h0 (d + 1 + 1) 111 174 [lr 307, li v, li (s.2 10 (s.1 16)), li (cntp (isB s) (fl t)), li 0, li (p.length + 1)] [] x (qi F)) ∧ (s.2 9 y = 3 → ((1 = x.2 36 p.length → (-2147483648 ≤ (p.length : Int) + 1 ∧ (p.length : Int) + 1 ≤ 2147483647) ∧ wm iv L h0 (d + 1 + 1) 111 174 [lr 307, li v, li (s.2 10 (s.1 16)), li (cntp (isB s) (fl t)), li 0, li (p.length + 1)] [] x (qi F)) ∧ (1 ≠ x.2 36 p.length → (-2147483648 ≤ (p.length : Int) + 1 ∧ (p.length : Int) + 1 ≤ 2147483647) ∧ wm iv L h0 (d + 1 + 1) 111 174 [lr 307, li v, li (s.2 10 (s.1 16)), li (cntp (isB s) (fl t)), li 1, li (p.length + 1)] [] x (qi F))))))))) := fun h3 r hr => by
          have er : rnb s v y = (decide (r = s.1 16) != isB s y) := by unfold rnb; rw [← hr, h3]; simp
          rw [e36]
          refine ⟨fun q => ⟨fun q2 => ⟨by omega, nx 1 (one ((bb b).1 q2))⟩, fun q2 => ⟨by omega, fun q3 => absurd h3 q3, fun _ => ⟨fun q3 => ⟨by omega, nx 0 ?_⟩, fun q3 => ⟨by omega, nx 1 ?_⟩⟩⟩⟩, fun q => ⟨fun q2 => ⟨by omega, nx 1 (one ((bb b).1 q2))⟩, fun q2 => ⟨by omega, fun q3 => absurd h3 q3, fun _ => ⟨fun q3 => ⟨by omega, nx 0 ?_⟩, fun q3 => ⟨by omega, nx 1 ?_⟩⟩⟩⟩⟩
          · rw [er, (bb b).2 q2, (bb (isB s y)).2 q3.symm, decide_eq_false q]; rfl
          · rw [er, (bb b).2 q2, (bb (isB s y)).1 (Ne.symm q3), decide_eq_false q]; rfl
          · rw [er, (bb b).2 q2, (bb (isB s y)).1 (by omega), decide_eq_true q]; rfl
          · have hb3 : isB s y = false := by cases hb3 : isB s y with
              | false => rfl
              | true => rw [hb3] at q3; exact absurd rfl q3
            rw [er, (bb b).2 q2, hb3, decide_eq_true q]; rfl
        refine B111_174 ⟨fun q => by omega, fun _ => ?_⟩
        rw [e17, c1, e9]
        refine ⟨by omega, by omega, fun q => ⟨fun q2 => ⟨by omega, nx 1 (one ((bb b).1 q2))⟩, fun q2 => ⟨fun _ => ⟨by omega, nx 0 ?_⟩, fun q3 => absurd q3 q⟩⟩, fun q => ⟨fun q2 => ?_, fun q2 => ?_⟩⟩
        · have : rnb s v y = false := by unfold rnb; rw [decide_eq_false q]; rfl
          rw [(bb b).2 q2, this]; rfl
        · rw [e36] at q2
          have hb3 := (bb (isB s y)).2 q2
          refine binderOf_ok (n := 70) (by omega) (by rw [e12]; exact hDP y hy) ?_
          rw [e9, x3, e12, e13, e16, e17, c1, e36]
          have := nam q _ (show bnd (s.2 9) (nuR s v) (s.2 12) (s.2 13) 70 y (nuR s v y) = bdR s v y (if isB s y then v else s.2 10 y) from by
            rw [hb3]
            show bdR s v y (nuR s v y) = bdR s v y (s.2 10 y)
            unfold nuR
            rw [if_neg (fun q4 => by rw [q4] at q; omega)])
          rw [e36] at this
          exact this
        · rw [e36] at q2
          have hb3 := (bb (isB s y)).1 q2
          refine binderOf_ok (n := 70) (by omega) (by rw [e12]; exact hDP y hy) ?_
          rw [e9, x3, e12, e13, e16, e17, c1, e36]
          have := nam q _ (show bnd (s.2 9) (nuR s v) (s.2 12) (s.2 13) 70 y v = bdR s v y (if isB s y then v else s.2 10 y) from by
            rw [hb3]
            rfl)
          rw [e36] at this
          exact this
    -- the first one: which names it binds
    have fst : ∀ (m p : List Int) (x : SM), fl t = p ++ m → eqx [] [36] w x → (∀ (k : Nat) (y : Int), p[k]? = some y → x.2 36 k = if isB s y then 1 else 0) → wm iv L h0 (d + 1 + 1) 111 62 [lr 307, li v, li (s.2 10 (s.1 16)), li (cntp (isB s) p), li p.length] [] x (qi F) := by
      intro m
      induction m with
      | nil =>
        intro p x e x1 x2
        have ep : p = fl t := by rw [e]; simp
        have hl := LR_nil w2 e
        have e16 : x.1 16 = s.1 16 := (x1.1 16 (by decide)).trans w16
        refine B111_62 ⟨fun _ => ?_, fun q => by rw [x1.1 18 (by decide)] at q; omega⟩
        rw [e16, ep]
        refine ⟨by omega, snd (ua x 10 (s.1 16) v) (eqx_ua (x1.up (fun _ q => q) (fun y q => by simp at q ⊢; omega)) (by decide)) (fun k y hk => x2 k y (by rw [ep]; exact hk)) ?_ (fl t) [] false rfl (by simp)⟩
        funext y
        rw [ua_2, x1.2 10 (by decide), w10]
        unfold nuR
        by_cases e4 : y = s.1 16
        · rw [if_pos ⟨rfl, e4⟩, if_pos e4]
        · rw [if_neg (by omega), if_neg e4]
      | cons y m ih =>
        intro p x e x1 x2
        obtain ⟨c1, c2⟩ := LR_cons w2 e
        obtain ⟨c3, hy⟩ := h.fl80 e
        have hyl := h.lt hy
        have e' := e
        rw [app1] at e'
        have e1 : ((p ++ [y]).length : Int) = p.length + 1 := by simp
        have e18 : x.1 18 = w.1 18 := x1.1 18 (by decide)
        have e17 : x.2 17 = w.2 17 := x1.2 17 (by decide)
        have e16 : x.1 16 = s.1 16 := (x1.1 16 (by decide)).trans w16
        have e9 : x.2 9 = s.2 9 := (x1.2 9 (by decide)).trans w9
        have e10 : x.2 10 = s.2 10 := (x1.2 10 (by decide)).trans w10
        have e12 : x.2 12 = s.2 12 := (x1.2 12 (by decide)).trans w12
        have e13 : x.2 13 = s.2 13 := (x1.2 13 (by decide)).trans w13
        have cl := cntp_in (isB s) p
        have ep1 : cntp (isB s) (p ++ [y]) = cntp (isB s) p + (if isB s y then 1 else 0) := by
          rw [cntp_app]
          show _ + ((if isB s y then 1 else 0) + 0) = _
          omega
        have nx : ∀ z : Int, z = (if isB s y then 1 else 0) → wm iv L h0 (d + 1 + 1) 111 62 [lr 307, li v, li (s.2 10 (s.1 16)), li (cntp (isB s) p + z), li (p.length + 1)] [] (ua x 36 p.length z) (qi F) := fun z hz => by
          have := ih (p ++ [y]) (ua x 36 p.length z) e' (eqx_ua x1 (by decide)) (fun k y' hk => ?_)
          · rw [e1, ep1, ← hz] at this
            exact this
          · rw [ua_2]
            by_cases hkp : k < p.length
            · rw [List.getElem?_append_left hkp] at hk
              rw [if_neg (by omega)]
              exact x2 k y' hk
            · rw [List.getElem?_append_right (by omega)] at hk
              have hk0 : k = p.length := by
                have := (List.getElem?_eq_some_iff.mp hk).1
                simp at this
                omega
              subst hk0
              simp at hk
              subst hk
              rw [if_pos ⟨rfl, rfl⟩]
              exact hz
        have z0 : (ua x 36 (p.length : Int) 0).2 36 p.length = 0 := by simp [ua_2]
        have z1 : (ua x 36 (p.length : Int) 1).2 36 p.length = 1 := by simp [ua_2]
        have no : isB s y = false → (((ua x 36 (p.length : Int) 0).2 36 p.length = 0 → (-2147483648 ≤ cntp (isB s) p + 0 ∧ cntp (isB s) p + 0 ≤ 2147483647) ∧ (-2147483648 ≤ (p.length : Int) + 1 ∧ (p.length : Int) + 1 ≤ 2147483647) ∧ wm iv L h0 (d + 1 + 1) 111 62 [lr 307, li v, li (s.2 10 (s.1 16)), li (cntp (isB s) p + 0), li (p.length + 1)] [] (ua x 36 p.length 0) (qi F)) ∧ ((ua x 36 (p.length : Int) 0).2 36 p.length ≠ 0 → (-2147483648 ≤ cntp (isB s) p + 1 ∧ cntp (isB s) p + 1 ≤ 2147483647) ∧ (-2147483648 ≤ (p.length : Int) + 1 ∧ (p.length : Int) + 1 ≤ 2147483647) ∧ wm iv L h0 (d + 1 + 1) 111 62 [lr 307, li v, li (s.2 10 (s.1 16)), li (cntp (isB s) p + 1), li (p.length + 1)] [] (ua x 36 p.length 0) (qi F))) := fun hb =>
          ⟨fun _ => ⟨by omega, by omega, nx 0 (by rw [hb]; rfl)⟩, fun q => absurd z0 q⟩
        refine B111_62 ⟨fun q => by omega, fun _ => ?_⟩
        rw [e17, c1, e9, e10]
        refine ⟨by omega, by omega, fun q => no (by unfold isB; rw [decide_eq_false q]; rfl), fun q => ⟨fun q2 => no ?_, fun q2 => ?_⟩⟩
        · unfold isB
          rw [decide_eq_false (p := bds s y (s.2 10 y) = s.1 16), Bool.and_false]
          intro q3
          rcases bnd_nu (so := s.2 9) (nu := s.2 10) (up := s.2 12) (pl := s.2 13) 70 y (s.2 10 y) with q4 | q4
          · have : bds s y (s.2 10 y) = -9 := q4
            omega
          · have q4 : s.2 10 (bds s y (s.2 10 y)) = s.2 10 y := q4
            rw [q3] at q4
            exact q2 q4.symm
        · refine binderOf_ok (n := 70) (by omega) (by rw [e12]; exact hDP y hy) ?_
          rw [e9, e10, e12, e13, e16]
          have hbe : bnd (s.2 9) (s.2 10) (s.2 12) (s.2 13) 70 y (s.2 10 (s.1 16)) = bds s y (s.2 10 y) := by rw [← q2]
          rw [hbe]
          refine ⟨fun q3 => no ?_, fun q3 => ⟨fun q4 => ?_, fun _ => ⟨by omega, by omega, nx 1 ?_⟩⟩⟩
          · unfold isB; rw [decide_eq_false q3, Bool.and_false]
          · rw [z1] at q4; exact absurd q4 (by decide)
          · unfold isB; rw [decide_eq_true q3, decide_eq_true q]; rfl
    exact fst (fl t) [] w rfl eqx.rf (fun k y hk => by simp at hk)
  refine B111 ⟨fun hv => ⟨by omega, fun e => main hv (Or.inl e), fun e => ⟨fun e2 => main hv (Or.inr e2), fun e2 => ?_⟩⟩, fun hv => ?_⟩
  · have := H1 s (fun q => by have := q.2.1; omega) SX.rf
    rw [if_pos hv, if_neg (by omega)] at this
    exact this
  · have := H1 s (fun q => by have := q.1; omega) SX.rf
    rw [if_neg (by omega)] at this
    exact this
end
end
