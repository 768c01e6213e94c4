/-! What the reference holds between two calls; which of its cells are for one call alone. -/
/-- cells for one call alone, numbers and rows -/
def scN : List Nat := [3, 18, 23, 30, 31, 41, 45, 67, 69]
def scR : List Nat := [17, 19, 20, 21, 22, 32, 33, 34, 36, 43, 44, 66, 68, 70]
/-- places of rows for one judging, for a trial -/
def scI (f : Nat) (i : Int) : Prop := ((f = 4 ∨ f = 5 ∨ f = 6 ∨ f = 7) ∧ 40 ≤ i) ∨ ((f = 9 ∨ f = 10 ∨ f = 11 ∨ f = 12 ∨ f = 13) ∧ 3000 ≤ i) ∨ (f = 14 ∧ 9000 ≤ i)
/-- the same but for such cells, and those named -/
def SX (ey ef : List Nat) (s w : SM) : Prop := (∀ y, y ∉ scN → y ∉ ey → w.1 y = s.1 y) ∧ ∀ f, f ∉ scR → f ∉ ef → ∀ i, ¬ scI f i → w.2 f i = s.2 f i
section
variable {ey ef : List Nat} {s w v : SM}
theorem SX.rf : SX ey ef s s := ⟨fun _ _ _ => rfl, fun _ _ _ _ _ => rfl⟩
theorem SX.tr (h1 : SX ey ef s w) (h2 : SX ey ef w v) : SX ey ef s v := ⟨fun y a b => (h2.1 y a b).trans (h1.1 y a b), fun f a b i c => (h2.2 f a b i c).trans (h1.2 f a b i c)⟩
theorem SX.sy (h1 : SX ey ef s w) : SX ey ef w s := ⟨fun y a b => (h1.1 y a b).symm, fun f a b i c => (h1.2 f a b i c).symm⟩
theorem SX.up {ey' ef' : List Nat} (h1 : SX ey ef s w) (hy : ∀ y, y ∈ ey → y ∈ ey') (hf : ∀ y, y ∈ ef → y ∈ ef') : SX ey' ef' s w := ⟨fun y a b => h1.1 y a (fun q => b (hy y q)), fun f a b i c => h1.2 f a (fun q => b (hf f q)) i c⟩
theorem SX.eq {ys fs : List Nat} (h : eqx ys fs s w) (hy : ∀ y, y ∈ ys → y ∈ scN ∨ y ∈ ey) (hf : ∀ f, f ∈ fs → f ∈ scR ∨ f ∈ ef) : SX ey ef s w := ⟨fun y a b => h.1 y (fun q => (hy y q).elim a b), fun f a b i _ => by rw [h.2 f (fun q => (hf f q).elim a b)]⟩
theorem SX.us {y : Nat} {z : Int} (h : SX ey ef s w) : SX ey ef (us s y z) (us w y z) := ⟨fun k a b => by
  show (if k = y then z else w.1 k) = if k = y then z else s.1 k
  rw [h.1 k a b], h.2⟩
theorem SX.ua {f : Nat} {i z : Int} (h : SX ey ef s w) : SX ey ef (ua s f i z) (ua w f i z) := ⟨h.1, fun k a b j c => by
  show (if k = f ∧ j = i then z else w.2 k j) = if k = f ∧ j = i then z else s.2 k j
  rw [h.2 k a b j c]⟩
end
/-- the tree of the sheet -/
def SHT (s : SM) (t : Term) : Prop := ATs s t ∧ full (s.2 9) t ∧ (fl t).Nodup ∧ (fl t).length ≤ 60 ∧ (0 ≤ s.1 8 ∧ s.1 8 ≤ 3000) ∧ hd t = s.1 15 ∧ s.2 12 (hd t) = -9 ∧ s.2 13 (hd t) = -9
/-- what holds of every node that was born -/
def NB (s : SM) : Prop := ∀ x, 0 ≤ x → x < s.1 8 → (0 ≤ s.2 9 x ∧ s.2 9 x < 16) ∧ ((s.2 9 x = 3 ∨ s.2 9 x = 8 ∨ s.2 9 x = 10) → 0 ≤ s.2 10 x ∧ s.2 10 x < 26) ∧ (s.2 9 x = 2 → s.2 10 x = 0 ∨ s.2 10 x = 1) ∧ ((s.2 9 x = 8 ∨ s.2 9 x = 15) → 0 ≤ s.2 11 x ∧ s.2 11 x < s.1 2)
abbrev KIs (s : SM) : Prop := KI (s.1 2) (s.2 4) (s.2 5) (s.2 6) (s.2 7)
/-- the row that was laid -/
def LR (w : SM) (l : List Int) : Prop := w.1 18 = l.length ∧ ∀ (j : Nat) (x : Int), l[j]? = some x → w.2 17 j = x
theorem SHT.lt {s : SM} {t : Term} (h : SHT s t) {x : Int} (hx : x ∈ fl t) : 0 ≤ x ∧ x < s.1 8 ∧ x < 3000 := by
  have := (AT_mem t h.1 x hx).1
  have := h.2.2.2.2.1
  omega
theorem AT_B {so pa up pl : Int → Int} {B B' : Int} (hB : B ≤ B') : ∀ (t : Term), AT so pa up pl B t → AT so pa up pl B' t := by
  intro t
  induction t with
  | index n => intro h; exact ⟨by have := h.1; omega, h.2⟩
  | add t x ih ihx => intro h; exact ⟨ih h.1, ihx h.2.1, h.2.2⟩
  | _ => intro h; exact h.elim
/-- rows that agree on the tree's nodes -/
theorem AT_ag {so pa up pl so' pa' up' pl' : Int → Int} {B B' : Int} (hB : B ≤ B') {t : Term} (h : AT so pa up pl B t) (hnd : (fl t).Nodup) (hs : ∀ x, x ∈ fl t → so' x = so x ∧ up' x = up x ∧ pl' x = pl x ∧ ∀ i, 0 ≤ i → i < 3 → pa' (3 * x + i) = pa (3 * x + i)) : AT so' pa' up' pl' B' t :=
  AT_cg hB t h hnd (fun x hx => ⟨(hs x hx).1, fun i i0 i1 _ => (hs x hx).2.2.2 i i0 (by have := pO_in (so x); omega)⟩) (fun x hx _ => ⟨(hs x hx).2.1, (hs x hx).2.2.1⟩)
theorem SHT.x {ey ef : List Nat} {s w : SM} {t : Term} (h : SHT s t) (hx : SX ey ef s w) (hy : 8 ∉ ey ∧ 15 ∉ ey) (hf : 9 ∉ ef ∧ 12 ∉ ef ∧ 13 ∉ ef ∧ 14 ∉ ef) : SHT w t := by
  have e8 := hx.1 8 (by decide) hy.1
  have hlt := fun x hx => h.lt (x := x) hx
  have e9 : ∀ x, x ∈ fl t → w.2 9 x = s.2 9 x := fun x q => hx.2 9 (by decide) hf.1 x (by have := hlt x q; unfold scI; omega)
  have e12 : ∀ x, x ∈ fl t → w.2 12 x = s.2 12 x := fun x q => hx.2 12 (by decide) hf.2.1 x (by have := hlt x q; unfold scI; omega)
  have e13 : ∀ x, x ∈ fl t → w.2 13 x = s.2 13 x := fun x q => hx.2 13 (by decide) hf.2.2.1 x (by have := hlt x q; unfold scI; omega)
  have hm := hd_mem t h.1
  refine ⟨AT_ag (by omega) h.1 h.2.2.1 (fun x q => ⟨e9 x q, e12 x q, e13 x q, fun i i0 i3 => hx.2 14 (by decide) hf.2.2.2 _ (by have := hlt x q; unfold scI; omega)⟩), ?_, h.2.2.1, h.2.2.2.1, by rw [e8]; exact h.2.2.2.2.1, ?_, ?_, ?_⟩
  · unfold full
    rw [e9 _ hm]
    exact h.2.1
  · rw [hx.1 15 (by decide) hy.2]
    exact h.2.2.2.2.2.1
  · rw [e12 _ hm]
    exact h.2.2.2.2.2.2.1
  · rw [e13 _ hm]
    exact h.2.2.2.2.2.2.2
theorem NB.x {ey ef : List Nat} {s w : SM} (h : NB s) (hx : SX ey ef s w) (h8 : s.1 8 ≤ 3000) (hy : 2 ∉ ey ∧ 8 ∉ ey) (hf : 9 ∉ ef ∧ 10 ∉ ef ∧ 11 ∉ ef) : NB w := fun x h0 h1 => by
  rw [hx.1 8 (by decide) hy.2] at h1
  have hi : ∀ f, (f = 9 ∨ f = 10 ∨ f = 11) → ¬ scI f x := fun f q => by unfold scI; omega
  rw [hx.2 9 (by decide) hf.1 x (hi 9 (by decide)), hx.2 10 (by decide) hf.2.1 x (hi 10 (by decide)), hx.2 11 (by decide) hf.2.2 x (hi 11 (by decide)), hx.1 2 (by decide) hy.1]
  exact h x h0 h1
theorem KI_ag {n n' : Int} {ks ka kb sz ks' ka' kb' sz' : Int → Int} (h : KI n ks ka kb sz) (hn : n' = n) (he : ∀ k, k < 40 → ks' k = ks k ∧ ka' k = ka k ∧ kb' k = kb k ∧ sz' k = sz k) : KI n' ks' ka' kb' sz' := by
  subst hn
  obtain ⟨h1, h2, h3⟩ := h
  refine ⟨h1, fun k k0 k3 => ?_, fun k k3 kn => ?_⟩
  · obtain ⟨e1, e2, e3, e4⟩ := he k (by omega)
    rw [e1, e2, e3, e4]
    exact h2 k k0 k3
  · obtain ⟨q1, q2, q3, q4, q5⟩ := h3 k k3 kn
    obtain ⟨e1, e2, e3, e4⟩ := he k (by omega)
    rw [e1, e2, e3, e4, (he (ka k) (by omega)).2.2.2, (he (kb k) (by omega)).2.2.2]
    exact ⟨q1, q2, q3, q4, q5⟩
theorem KI_x {ey ef : List Nat} {s w : SM} (h : KIs s) (hx : SX ey ef s w) (hy : 2 ∉ ey) (hf : 4 ∉ ef ∧ 5 ∉ ef ∧ 6 ∉ ef ∧ 7 ∉ ef) : KIs w :=
  KI_ag h (hx.1 2 (by decide) hy) (fun k hk => ⟨hx.2 4 (by decide) hf.1 k (by unfold scI; omega), hx.2 5 (by decide) hf.2.1 k (by unfold scI; omega), hx.2 6 (by decide) hf.2.2.1 k (by unfold scI; omega), hx.2 7 (by decide) hf.2.2.2 k (by unfold scI; omega)⟩)
/-- the part of the tree at a node -/
noncomputable def sq (x : Int) (t : Term) : Term := if hd t = x then t else sb x t
theorem sq_ok {so pa up pl : Int → Int} {B x : Int} {t : Term} (h : AT so pa up pl B t) (hf : full so t) (hnd : (fl t).Nodup) (hx : x ∈ fl t) : AT so pa up pl B (sq x t) ∧ full so (sq x t) ∧ hd (sq x t) = x ∧ (∀ y, y ∈ fl (sq x t) → y ∈ fl t) ∧ (fl (sq x t)).Nodup ∧ (fl (sq x t)).length ≤ (fl t).length ∧ dpt (sq x t) ≤ dpt t := by
  unfold sq
  by_cases e : hd t = x
  · rw [if_pos e]
    exact ⟨h, hf, e, fun _ q => q, hnd, Nat.le_refl _, Nat.le_refl _⟩
  · rw [if_neg e]
    obtain ⟨b1, b2, b3, b4, b5, b6⟩ := sb_ok t h hnd hx (Ne.symm e)
    obtain ⟨a, z, h1, h2, h3⟩ := rp_fl t h hnd hx (Ne.symm e)
    refine ⟨b1, b2, b3, b4, ?_, ?_, by omega⟩
    · rw [h2] at hnd
      exact (List.nodup_append.mp (List.nodup_append.mp hnd).2.1).1
    · rw [h2]
      simp only [List.length_append]
      omega
section
variable {iv : List (Int × Int)} {L : Nat} {h0 : MH} {s : SM} {t : Term} {d : Nat}
theorem LR_mem {w : SM} {l : List Int} (h : LR w l) {j : Int} (h0 : 0 ≤ j) (hj : j < w.1 18) : w.2 17 j ∈ l ∧ l[j.toNat]? = some (w.2 17 j) := by
  have h1 := h.1
  have h2 : j.toNat < l.length := by omega
  have h3 := h.2 j.toNat _ (List.getElem?_eq_getElem h2)
  rw [show ((j.toNat : Nat) : Int) = j by omega] at h3
  rw [h3]
  exact ⟨List.getElem_mem h2, List.getElem?_eq_getElem h2⟩
/-- a part of the tree is laid in the row -/
theorem layAt_ok {x : Int} {F : SM → Prop} (h : SHT s t) (hx : x ∈ fl t) (hd : 62 ≤ d) (hF : ∀ w, eqx [18] [17] s w → LR w (fl (sq x t)) → F w) : cm iv L h0 d 78 [vr 307, vi x] (us s 18 0) (qv F) := by
  obtain ⟨a1, a2, a3, a4, a5, a6, a7⟩ := sq_ok h.1 h.2.1 h.2.2.1 hx
  have hl := h.2.2.2.1
  have hdp := dpt_len _ a1
  have := lay_ok (iv := iv) (L := L) (h0 := h0) (s := us s 18 0) (t := sq x t) (D := d - 1) a1 a2 (by have := h.2.2.2.2.1; show s.1 8 ≤ 3004; omega) (by omega) (Int.le_refl 0) (by show (0 : Int) + _ ≤ 80; omega)
  rw [a3, show d - 1 + 1 = d by omega] at this
  refine wcv_mono this (Nat.le_refl _) (fun w hw => hF w ?_ ?_)
  · exact (eqx_us (s := s) (t := s) eqx.rf (y := 18) (z := 0) (by decide)).tr (hw.1)
  · refine ⟨by rw [hw.2.1]; show (0 : Int) + _ = _; omega, fun j y hj => ?_⟩
    have := hw.2.2.1 j y hj
    rw [show (us s 18 0).1 18 + (j : Int) = j from by show (0 : Int) + j = j; omega] at this
    exact this
theorem sq_top (h : SHT s t) : sq (s.1 15) t = t := if_pos h.2.2.2.2.2.1
theorem top_mem (h : SHT s t) : s.1 15 ∈ fl t := by rw [← h.2.2.2.2.2.1]; exact hd_mem t h.1
theorem layAll_ok {F : SM → Prop} (h : SHT s t) (hd : 63 ≤ d) (hF : ∀ w, eqx [18] [17] s w → LR w (fl t) → F w) : cm iv L h0 d 79 [vr 307] s (qv F) := by
  obtain ⟨d, rfl⟩ : ∃ k, d = k + 1 := ⟨d - 1, by omega⟩
  refine B79 (layAt_ok h (top_mem h) (by omega) (fun w h1 h2 => ?_))
  rw [sq_top h] at h2
  exact hF w h1 h2
theorem sizeOf_ok {x : Int} {F : Int → SM → Prop} (h : SHT s t) (hx : x ∈ fl t) (hd : 63 ≤ d) (hF : ∀ w, eqx [18] [17] s w → LR w (fl (sq x t)) → F (fl (sq x t)).length w) : cm iv L h0 d 81 [vr 307, vi x] s (qi F) := by
  obtain ⟨d, rfl⟩ : ∃ k, d = k + 1 := ⟨d - 1, by omega⟩
  refine B81 (layAt_ok h hx (by omega) (fun w h1 h2 => ?_))
  rw [h2.1]
  exact hF w h1 h2
theorem nodes_ok {F : Int → SM → Prop} (h : SHT s t) (hd : 64 ≤ d) (hF : ∀ w, eqx [18] [17] s w → F (fl t).length w) : cm iv L h0 d 82 [vr 307] s (qi F) := by
  obtain ⟨d, rfl⟩ : ∃ k, d = k + 1 := ⟨d - 1, by omega⟩
  refine B82 (sizeOf_ok h (top_mem h) (by omega) (fun w h1 h2 => ?_))
  rw [sq_top h]
  exact hF w h1
theorem isThere_ok {b : Int} {F : Int → SM → Prop} (h : SHT s t) (hd : 64 ≤ d) (hF : ∀ w, eqx [18] [17] s w → LR w (fl t) → F (if b ∈ fl t then 1 else 0) w) : cm iv L h0 d 80 [vr 307, vi b] s (qi F) := by
  obtain ⟨d, rfl⟩ : ∃ k, d = k + 1 := ⟨d - 1, by omega⟩
  refine B80 (layAll_ok h (by omega) (fun w h1 h2 => ?_))
  have hl := h.2.2.2.1
  have h3 := hF w h1 h2
  have key : ∀ (n : Nat) (j : Int), 0 ≤ j → j ≤ w.1 18 → (w.1 18 - j).toNat = n → (∀ i : Nat, (i : Int) < j → (fl t)[i]? ≠ some b) → wm iv L h0 (d + 1) 80 6 [lr 307, li b, li j] [] w (qi F) := by
    intro n
    induction n with
    | zero =>
      intro j j0 j1 hn hno
      refine B80_6 ⟨fun _ => ?_, fun q => by omega⟩
      rw [if_neg (fun q => ?_)] at h3
      · exact h3
      · obtain ⟨i, i1, i2⟩ := List.getElem_of_mem q
        exact hno i (by have := h2.1; omega) (by rw [List.getElem?_eq_getElem i1, i2])
    | succ n ih =>
      intro j j0 j1 hn hno
      have h21 := h2.1
      refine B80_6 ⟨fun q => by omega, fun q => ⟨by omega, fun e => ⟨by omega, ih (j + 1) (by omega) (by omega) (by omega) (fun i hi => ?_)⟩, fun e => ?_⟩⟩
      · by_cases hij : (i : Int) < j
        · exact hno i hij
        · have hij : j = (i : Int) := by omega
          subst hij
          intro c
          exact e (h2.2 i b c)
      · rw [if_pos (by rw [← e]; exact (LR_mem h2 j0 q).1)] at h3
        exact h3
  exact key _ 0 (by omega) (by have := h2.1; omega) rfl (fun i hi => by omega)
def J0 : JT := (fun _ => .null, fun _ => none, fun _ => 0)
/-- what judging the sheet comes to -/
def jdg (s : SM) (t : Term) : JT := (jds s t none J0).1
/-- behind a judging -/
def JW (s w : SM) (t : Term) : Prop := eqx [3] [4, 5, 6, 7, 19, 20, 21] s w ∧ (∀ k, k < 40 → w.2 4 k = s.2 4 k ∧ w.2 5 k = s.2 5 k ∧ w.2 6 k = s.2 6 k ∧ w.2 7 k = s.2 7 k) ∧ KJs w ∧ JR w (jdg s t) (fun x => x ∈ fl t) ∧ w.1 3 ≤ 6000
theorem JW.sx {v : SM} (h : JW s v t) : SX [] [] s v := by
  obtain ⟨h1, h2, -⟩ := h
  refine ⟨fun y a _ => h1.1 y (fun q => a (by simp at q; subst q; decide)), fun f a _ i c => ?_⟩
  by_cases e : f = 4 ∨ f = 5 ∨ f = 6 ∨ f = 7
  · have hi : i < 40 := by unfold scI at c; omega
    obtain ⟨q1, q2, q3, q4⟩ := h2 i hi
    rcases e with rfl | rfl | rfl | rfl <;> assumption
  · rw [h1.2 f (fun q => ?_)]
    simp at q
    simp [scR] at a
    omega
theorem DP_tree (h : SHT s t) : ∀ x, x ∈ fl t → DP (s.2 12) 61 x := fun x hx => by
  have h1 := dpt_len t h.1
  have h2 := h.2.2.2.1
  exact DP_up _ _ _ (by omega) (AT_DP (by have := h.2.2.2.2.1; omega) t 1 h.1 (Or.inl h.2.2.2.2.2.2.1) x hx)
theorem judge_ok {F : SM → Prop} (h : SHT s t) (hN : NB s) (hK : KIs s) (hD : 230 ≤ d) (hF : ∀ w, JW s w t → F w) : cm iv L h0 d 86 [vr 307] s (qv F) := by
  obtain ⟨d, rfl⟩ : ∃ k, d = k + 1 := ⟨d - 1, by omega⟩
  have hdp := dpt_len t h.1
  have hl := h.2.2.2.1
  have htop := h.2.2.2.2.2.1
  have hB := h.2.2.2.2.1
  have hT : PRT (us s 3 40) t := ⟨AT_B (by show s.1 8 ≤ 3004; omega) t h.1, h.2.1, h.2.2.1, fun x hx e => (hN x (h.lt hx).1 (h.lt hx).2.1).2.2.2 e, fun x hx => DP_up 61 70 _ (by omega) (DP_tree h x hx)⟩
  have hKJ : KJs (us s 3 40) := ⟨hK, Int.le_refl 40, fun k k1 k2 => by exfalso; have : k < 40 := k2; omega⟩
  have hP : PRJ (us s 3 40) (hd t) (fl t) J0 (fun _ => False) := ⟨hKJ, fun x => Or.inl (by
    show bnd (s.2 9) (s.2 10) (s.2 12) (s.2 13) 70 (hd t) x = -9
    unfold bnd
    rw [if_pos h.2.2.2.2.2.2.1]), fun x q => q.elim, fun x q => q.elim⟩
  have := jsp_all (iv := iv) (L := L) (h0 := h0) (dpt t) t (us s 3 40) (-1) none J0 (fun _ => False) (Nat.le_refl _) hT hP rfl (by show (40 : Int) + _ ≤ 6000; omega)
  rw [htop] at this
  refine B86 (wci_mono this (by omega) ?_)
  rintro r w ⟨hX, hb, hr, hj⟩
  refine hF w ⟨?_, fun k hk => ?_, hX.2.1, ?_, ?_⟩
  · exact (eqx_us (s := s) (t := s) eqx.rf (y := 3) (z := 40) (by decide)).tr (hX.1.up (fun _ q => q) (fun f q => by simp at q ⊢; omega))
  · exact hX.2.2.1.2.2 k hk
  · intro x hx
    exact hj x (Or.inr hx)
  · have : w.1 3 ≤ 40 + 41 * (fl t).length := hb
    omega
end
