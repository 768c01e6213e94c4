/-! What working comes to is whole: its nodes are in the sheet, its envs have what names ask for. -/
def cov (s : SM) (b : Int) (E : Term) : Prop := ∀ x, 0 ≤ x → x < 26 → bds s b x ≠ -9 → lkE E x ≠ .null
/-- what stands where a hole was: itself, if it is in the sheet -/
def tgt (s : SM) (t : Term) (b : Int) : Int := if b ∈ fl t then b else fllF (s.2 42) b
def VG (s : SM) (t : Term) (g : Int → Int) : Term → Prop
  | .int _ => True
  | .arg n => n ≤ 1
  | .index x => x < 26
  | .sub (.index d) E => ((d : Int) ∈ fl t ∧ s.2 9 d = 8) ∧ cov s d E ∧ isE 26 E ∧ VG s t g E
  | .add A B => (isV A = true ∧ VG s t g A) ∧ isV B = true ∧ VG s t g B
  | .div (.index b) E => ((b : Int) < s.1 8 ∧ g b ∈ fl t ∧ (g b = b → s.2 9 b = 0)) ∧ cov s (g b) E ∧ isE 26 E ∧ VG s t g E
  | .length A => isV A = true ∧ VG s t g A
  | .rem (.index n) (.elem A (.elem B E)) => ((n : Int) ∈ fl t ∧ isV A = true ∧ VG s t g A) ∧ (((s.2 9 n = 4 ∨ s.2 9 n = 5 ∨ s.2 9 n = 6 ∨ s.2 9 n = 7 ∨ s.2 9 n = 9) ∧ isV B = true ∧ VG s t g B ∧ E = .null) ∨ (s.2 9 n = 11 ∧ B = .null ∧ isE 26 E ∧ cov s n E ∧ VG s t g E) ∨ ((s.2 9 n = 13 ∨ s.2 9 n = 14) ∧ B = .null ∧ E = .null))
  | .mul r x => VG s t g r ∧ (x = .null ∨ (isV x = true ∧ VG s t g x))
  | .null => True
  | _ => False
/-- what came of working: its holes are in the sheet; what is to be gone on with: what stands for them is -/
abbrev VN (s : SM) (t : Term) : Term → Prop := VG s t (fun b => b)
abbrev VO (s : SM) (t : Term) : Term → Prop := VG s t (tgt s t)
theorem isV_nn {v : Term} (h : isV v = true) : v ≠ .null := fun e => by rw [e] at h; cases h
/-- names that are in no frame for it are bound -/
def RSN (s : SM) (t : Term) : Prop := ∀ y, y ∈ fl t → s.2 9 y = 3 → s.2 21 y ≠ 1 → bds s y (s.2 10 y) ≠ -9
def RO (s : SM) (t : Term) (most st : Int) (r : RS) : Prop := (st ≤ r.1 ∧ r.1 ≤ most) ∧ (r.2.1 = 0 ∨ (2 ≤ r.2.1 ∧ r.2.1 ≤ 4)) ∧ (r.2.1 = 0 → r.2.2.1 = -9 ∧ isV r.2.2.2 = true ∧ VN s t r.2.2.2)
/-- an env with the same letters -/
def RE (s : SM) (t : Term) (most st : Int) (n : Nat) (E : Term) (r : RS) : Prop := (st ≤ r.1 ∧ r.1 ≤ most) ∧ (r.2.1 = 0 ∨ (2 ≤ r.2.1 ∧ r.2.1 ≤ 4)) ∧ (r.2.1 = 0 → r.2.2.1 = -9 ∧ isE n r.2.2.2 ∧ VN s t r.2.2.2 ∧ ∀ x, lkE r.2.2.2 x = .null → lkE E x = .null)
theorem RO_ok {s : SM} {t : Term} {most st : Int} {v : Term} (h : st ≤ most) (h1 : isV v = true) (h2 : VN s t v) : RO s t most st (rok st v) := ⟨⟨Int.le_refl _, h⟩, Or.inl rfl, fun _ => ⟨rfl, h1, h2⟩⟩
theorem RO_st {s : SM} {t : Term} {most st how b : Int} (h : st ≤ most) (h1 : 2 ≤ how ∧ how ≤ 4) : RO s t most st (rst st how b) := ⟨⟨Int.le_refl _, h⟩, Or.inr h1, fun q => by have q : how = 0 := q; omega⟩
theorem RO_bn {s : SM} {t : Term} {most st : Int} {r : RS} {f : Int → Term → RS} (h : RO s t most st r) (hf : ∀ st' v, st ≤ st' → st' ≤ most → isV v = true → VN s t v → RO s t most st' (f st' v)) : RO s t most st (bnR r f) := by
  unfold bnR
  by_cases e : r.2.1 = 0
  · rw [if_pos e]
    obtain ⟨h1, h2, h3⟩ := h
    obtain ⟨h4, h5, h6⟩ := h3 e
    obtain ⟨g1, g2, g3⟩ := hf r.1 r.2.2.2 h1.1 h1.2 h5 h6
    exact ⟨⟨by omega, g1.2⟩, g2, g3⟩
  · rw [if_neg e]; exact h
theorem RE_bn {s : SM} {t : Term} {most st : Int} {n : Nat} {E : Term} {r : RS} {f : Int → Term → RS} (h : RE s t most st n E r) (hf : ∀ st' v, st ≤ st' → st' ≤ most → isE n v → VN s t v → (∀ x, lkE v x = .null → lkE E x = .null) → RO s t most st' (f st' v)) : RO s t most st (bnR r f) := by
  unfold bnR
  obtain ⟨h1, h2, h3⟩ := h
  by_cases e : r.2.1 = 0
  · rw [if_pos e]
    obtain ⟨h4, h5, h6, h7⟩ := h3 e
    obtain ⟨g1, g2, g3⟩ := hf r.1 r.2.2.2 h1.1 h1.2 h5 h6 h7
    exact ⟨⟨by omega, g1.2⟩, g2, g3⟩
  · rw [if_neg e]
    exact ⟨h1, h2, fun q => absurd q e⟩
theorem VN_lk {s : SM} {t : Term} {g : Int → Int} : ∀ (E : Term) (x : Int), VG s t g E → lkE E x ≠ .null → isV (lkE E x) = true ∧ VG s t g (lkE E x) := by
  intro E
  induction E with
  | mul r y ih _ =>
    intro x h hn
    have h : VG s t g r ∧ (y = .null ∨ (isV y = true ∧ VG s t g y)) := h
    unfold lkE at hn ⊢
    by_cases e : (mlen r : Int) = x
    · rw [if_pos e] at hn ⊢
      exact h.2.resolve_left hn
    · rw [if_neg e] at hn ⊢
      exact ih x h.1 hn
  | _ => intro x h hn; exact absurd rfl hn
theorem VN_up {s : SM} {t : Term} : ∀ (E : Term) (x : Int) (v : Term), VN s t E → isV v = true → VN s t v → VN s t (upE E x v) := by
  intro E
  induction E with
  | mul r y ih _ =>
    intro x v h h1 h2
    have h : VN s t r ∧ (y = .null ∨ (isV y = true ∧ VN s t y)) := h
    unfold upE
    by_cases e : (mlen r : Int) = x
    · rw [if_pos e]; exact ⟨h.1, Or.inr ⟨h1, h2⟩⟩
    · rw [if_neg e]; exact ⟨ih x v h.1 h1 h2, h.2⟩
  | _ => intro x v h _ _; exact h
section
variable {s : SM} {t : Term}
/-- what binds letters in a part -/
theorem bds_part (h : SHT s t) {b i : Int} (hb : b ∈ fl t) (hi : 0 ≤ i ∧ i < pO (s.2 9 b)) (x : Int) : s.2 14 (3 * b + i) ∈ fl t ∧ bds s (s.2 14 (3 * b + i)) x = if (s.2 9 b = 8 ∨ (s.2 9 b = 10 ∧ i = 1)) ∧ s.2 10 b = x then b else bds s b x := by
  obtain ⟨c1, c2, c3⟩ := (AT_mem t h.1 b hb).2.2.1 i hi.1 hi.2 (fun q => by have := h.2.1; unfold full at this; rw [this, ← q]; exact hi.2)
  refine ⟨c1, ?_⟩
  have hbl := h.lt hb
  show bnd (s.2 9) (s.2 10) (s.2 12) (s.2 13) (69 + 1) (s.2 14 (3 * b + i)) x = _
  unfold bnd
  rw [c2, c3, if_neg (by omega)]
  by_cases q : (s.2 9 b = 8 ∨ (s.2 9 b = 10 ∧ i = 1)) ∧ s.2 10 b = x
  · rw [if_pos q, if_pos q]
  · rw [if_neg q, if_neg q]
    exact (bnd_f 69 70 b x (by decide) (DP_up 61 69 _ (by decide) (DP_tree h b hb))).symm
theorem cov_part (h : SHT s t) {b i : Int} {E : Term} (hb : b ∈ fl t) (hi : 0 ≤ i ∧ i < pO (s.2 9 b)) (hn : ¬ (s.2 9 b = 8 ∨ (s.2 9 b = 10 ∧ i = 1))) (hc : cov s b E) : s.2 14 (3 * b + i) ∈ fl t ∧ cov s (s.2 14 (3 * b + i)) E := by
  refine ⟨(bds_part h hb hi 0).1, fun x x0 x1 hx => hc x x0 x1 ?_⟩
  rw [(bds_part h hb hi x).2, if_neg (fun q => hn q.1)] at hx
  exact hx
theorem cov_bind (h : SHT s t) (hN : NB s) {b i : Int} {E v : Term} (hb : b ∈ fl t) (hi : 0 ≤ i ∧ i < pO (s.2 9 b)) (hn : s.2 9 b = 8 ∨ (s.2 9 b = 10 ∧ i = 1)) (hE : isE 26 E) (hv : v ≠ .null) (hc : cov s b E) : s.2 14 (3 * b + i) ∈ fl t ∧ cov s (s.2 14 (3 * b + i)) (upE E (s.2 10 b) v) := by
  have hbl := h.lt hb
  have hnb := (hN b hbl.1 hbl.2.1).2.1 (by omega)
  refine ⟨(bds_part h hb hi 0).1, fun x x0 x1 hx => ?_⟩
  rw [lkE_up 26 E _ v x hE hnb.1 hnb.2]
  rw [(bds_part h hb hi x).2] at hx
  by_cases q : x = s.2 10 b
  · rw [if_pos q]; exact hv
  · rw [if_neg q]
    rw [if_neg (fun c => q c.2.symm)] at hx
    exact hc x x0 x1 hx
theorem act_ok (h : SHT s t) (hN : NB s) {most : Int} {w : EW} (hw : ∀ b E st, b ∈ fl t → isE 26 E → VN s t E → cov s b E → st ≤ most → RO s t most st (w b E st)) {b st : Int} {x y E : Term} (hb : b ∈ fl t) (hst : st ≤ most) (hx : isV x = true ∧ VN s t x) (hso : 4 ≤ s.2 9 b ∧ s.2 9 b < 15 ∧ s.2 9 b ≠ 8 ∧ s.2 9 b ≠ 10) (hy : (s.2 9 b = 4 ∨ s.2 9 b = 5 ∨ s.2 9 b = 6 ∨ s.2 9 b = 7 ∨ s.2 9 b = 9 ∨ s.2 9 b = 12) → isV y = true ∧ VN s t y) (hE : s.2 9 b = 11 → isE 26 E ∧ VN s t E ∧ cov s b E) : RO s t most st (actE (s.2 9) (s.2 10) (s.2 14) w b x y E st) := by
  have hbl := h.lt hb
  have eb : ((b.toNat : Nat) : Int) = b := by omega
  have lft : ∀ (y' E' : Term), isW x = true → (((s.2 9 b = 4 ∨ s.2 9 b = 5 ∨ s.2 9 b = 6 ∨ s.2 9 b = 7 ∨ s.2 9 b = 9) ∧ isV y' = true ∧ VN s t y' ∧ E' = .null) ∨ (s.2 9 b = 11 ∧ y' = .null ∧ isE 26 E' ∧ cov s b E' ∧ VN s t E') ∨ ((s.2 9 b = 13 ∨ s.2 9 b = 14) ∧ y' = .null ∧ E' = .null)) → RO s t most st (rok st (.rem (.index b.toNat) (.elem x (.elem y' E')))) := fun y' E' _ q =>
    RO_ok hst rfl ⟨⟨by rw [eb]; exact hb, hx.1, hx.2⟩, by rw [eb]; exact q⟩
  have lf2 : ∀ (y' E' : Term), (((s.2 9 b = 4 ∨ s.2 9 b = 5 ∨ s.2 9 b = 6 ∨ s.2 9 b = 7 ∨ s.2 9 b = 9) ∧ isV y' = true ∧ VN s t y' ∧ E' = .null) ∨ (s.2 9 b = 11 ∧ y' = .null ∧ isE 26 E' ∧ cov s b E' ∧ VN s t E') ∨ ((s.2 9 b = 13 ∨ s.2 9 b = 14) ∧ y' = .null ∧ E' = .null)) → RO s t most st (lftE b x y' E' st) := fun y' E' q => by
    unfold lftE
    by_cases e : isW x = true
    · rw [if_pos e]; exact lft y' E' e q
    · rw [if_neg e]; exact RO_st hst (by decide)
  unfold actE
  by_cases e1 : s.2 9 b = 4 ∨ s.2 9 b = 5 ∨ s.2 9 b = 6 ∨ s.2 9 b = 7
  · rw [if_pos e1]
    obtain ⟨y1, y2⟩ := hy (by omega)
    unfold rckE
    by_cases e : (isW x || isW y) = true
    · rw [if_pos e]
      exact RO_ok hst rfl ⟨⟨by rw [eb]; exact hb, hx.1, hx.2⟩, by rw [eb]; exact Or.inl ⟨by omega, y1, y2, rfl⟩⟩
    · rw [if_neg e]
      split
      · split
        · refine RO_ok hst rfl ?_
          show (if _ then 1 else 0) ≤ 1
          split <;> omega
        · split
          · exact RO_st hst (by decide)
          · exact RO_ok hst rfl trivial
      · exact RO_st hst (by decide)
  · rw [if_neg e1]
    by_cases e2 : s.2 9 b = 9
    · rw [if_pos e2]
      obtain ⟨y1, y2⟩ := hy (by omega)
      have gen : ∀ d E', x = .sub (.index d) E' → RO s t most st (w (s.2 14 (3 * d)) (upE E' (s.2 10 d) y) st) := fun d E' e => by
        subst e
        obtain ⟨⟨d1, d2⟩, d3, d4, d5⟩ := hx.2
        have := cov_bind h hN (i := 0) d1 (by rw [d2]; decide) (Or.inl d2) d4 (isV_nn y1) d3
        rw [show (3 * (d : Int) + 0) = 3 * d by omega] at this
        exact hw _ _ _ this.1 (upE_is 26 _ _ _ d4) (VN_up _ _ _ d5 y1 y2) this.2 hst
      unfold useE
      split
      · rename_i d E' 
        exact gen d E' rfl
      · exact lf2 y .null (Or.inl ⟨by omega, y1, y2, rfl⟩)
    · rw [if_neg e2]
      by_cases e3 : s.2 9 b = 11
      · rw [if_pos e3]
        obtain ⟨h1, h2, h3⟩ := hE e3
        unfold pckE
        split
        · rename_i n
          have hp : pO (s.2 9 b) = 3 := by rw [e3]; rfl
          have := cov_part h (i := if n = 1 then 1 else 2) hb (by rw [hp]; split <;> omega) (by omega) h3
          exact hw _ _ _ this.1 h1 h2 this.2 hst
        · exact lf2 .null E (Or.inr (Or.inl ⟨e3, rfl, h1, h3, h2⟩))
      · rw [if_neg e3]
        by_cases e4 : s.2 9 b = 12
        · rw [if_pos e4]
          obtain ⟨y1, y2⟩ := hy (by omega)
          exact RO_ok hst rfl ⟨hx, y1, y2⟩
        · rw [if_neg e4]
          unfold hlfE
          split
          · rename_i p q
            obtain ⟨⟨p1, p2⟩, q1, q2⟩ := hx.2
            split
            · exact RO_ok hst p1 p2
            · exact RO_ok hst q1 q2
          · exact lf2 .null .null (Or.inr (Or.inr ⟨by omega, rfl, rfl⟩))
theorem work_ok1 (h : SHT s t) (hN : NB s) (hR : RSN s t) {most : Int} {w : EW} (hw : ∀ b E st, b ∈ fl t → isE 26 E → VN s t E → cov s b E → st ≤ most → RO s t most st (w b E st)) {b st : Int} {E : Term} (hb : b ∈ fl t) (hE : isE 26 E) (hV : VN s t E) (hc : cov s b E) (hst : st ≤ most) : RO s t most st (wplE (s.2 9) (s.2 10) (s.2 14) (s.2 21) w b E st) := by
  have hbl := h.lt hb
  have eb : ((b.toNat : Nat) : Int) = b := by omega
  obtain ⟨n1, n2, n3, n4⟩ := hN b hbl.1 hbl.2.1
  have prt : ∀ i, 0 ≤ i → i < pO (s.2 9 b) → ¬ (s.2 9 b = 8 ∨ (s.2 9 b = 10 ∧ i = 1)) → ∀ st', st' ≤ most → RO s t most st' (w (s.2 14 (3 * b + i)) E st') := fun i i0 i1 hn st' hs => by
    have := cov_part h hb ⟨i0, i1⟩ hn hc
    exact hw _ _ _ this.1 hE hV this.2 hs
  have p0 : 0 < pO (s.2 9 b) → ¬ (s.2 9 b = 8) → ∀ st', st' ≤ most → RO s t most st' (w (s.2 14 (3 * b)) E st') := fun i1 hn st' hs => by
    have := prt 0 (Int.le_refl 0) i1 (by omega) st' hs
    rw [Int.add_zero] at this
    exact this
  unfold wplE
  by_cases e0 : s.2 9 b = 0
  · rw [if_pos e0]
    have hd : ((b.toNat : Nat) : Int) ∈ fl t := by rw [eb]; exact hb
    have hd2 : cov s ((b.toNat : Nat) : Int) E := by rw [eb]; exact hc
    exact RO_ok hst rfl ⟨⟨by rw [eb]; exact hbl.2.1, hd, fun _ => by rw [eb]; exact e0⟩, hd2, hE, hV⟩
  rw [if_neg e0]
  by_cases e1 : s.2 9 b = 1
  · rw [if_pos e1]; exact RO_ok hst rfl trivial
  rw [if_neg e1]
  by_cases e2 : s.2 9 b = 2
  · rw [if_pos e2]
    refine RO_ok hst rfl ?_
    show (s.2 10 b).toNat ≤ 1
    have := n3 e2
    omega
  rw [if_neg e2]
  by_cases e3 : s.2 9 b = 3
  · rw [if_pos e3]
    have hnu := n2 (Or.inl e3)
    by_cases e : s.2 21 b = 1
    · rw [if_pos e]
      refine RO_ok hst rfl ?_
      show (s.2 10 b).toNat < 26
      omega
    · rw [if_neg e]
      have := VN_lk E _ hV (hc _ hnu.1 hnu.2 (hR b hb e3 e))
      exact RO_ok hst this.1 this.2
  rw [if_neg e3]
  by_cases e8 : s.2 9 b = 8
  · rw [if_pos e8]
    exact RO_ok hst rfl ⟨⟨by rw [eb]; exact hb, by rw [eb]; exact e8⟩, by rw [eb]; exact hc, hE, hV⟩
  rw [if_neg e8]
  by_cases e15 : s.2 9 b = 15
  · rw [if_pos e15]; exact p0 (by rw [e15]; decide) e8 st hst
  rw [if_neg e15]
  by_cases e10 : s.2 9 b = 10
  · rw [if_pos e10]
    refine RO_bn (p0 (by rw [e10]; decide) e8 st hst) (fun st' v s1 s2 v1 v2 => ?_)
    have := cov_bind h hN (i := 1) hb (by rw [e10]; decide) (Or.inr ⟨e10, rfl⟩) hE (isV_nn v1) hc
    exact hw _ _ _ this.1 (upE_is 26 _ _ _ hE) (VN_up _ _ _ hV v1 v2) this.2 s2
  rw [if_neg e10]
  have hp1 : 0 < pO (s.2 9 b) := by
    rcases (show s.2 9 b = 4 ∨ s.2 9 b = 5 ∨ s.2 9 b = 6 ∨ s.2 9 b = 7 ∨ s.2 9 b = 9 ∨ s.2 9 b = 11 ∨ s.2 9 b = 12 ∨ s.2 9 b = 13 ∨ s.2 9 b = 14 by omega) with e | e | e | e | e | e | e | e | e <;> rw [e] <;> decide
  refine RO_bn (p0 hp1 e8 st hst) (fun st' x s1 s2 x1 x2 => ?_)
  by_cases e : pO (s.2 9 b) = 2
  · rw [if_pos e]
    refine RO_bn (prt 1 (by decide) (by omega) (by omega) st' s2) (fun st'' y s3 s4 y1 y2 => ?_)
    exact act_ok h hN hw hb s4 ⟨x1, x2⟩ (by omega) (fun _ => ⟨y1, y2⟩) (fun _ => ⟨hE, hV, hc⟩)
  · rw [if_neg e]
    refine act_ok h hN hw hb s2 ⟨x1, x2⟩ (by omega) (fun q => ?_) (fun _ => ⟨hE, hV, hc⟩)
    exfalso
    rcases q with q | q | q | q | q | q <;> rw [q] at e <;> exact e rfl
theorem bnR_0 {r : RS} {f : Int → Term → RS} (e : r.2.1 = 0) : bnR r f = f r.1 r.2.2.2 := if_pos e
theorem bnR_n {r : RS} {f : Int → Term → RS} (e : r.2.1 ≠ 0) : bnR r f = r := if_neg e
theorem env_ok {most : Int} {o : EO} (ho : ∀ v st, isV v = true → VO s t v → st ≤ most → RO s t most st (o v st)) : ∀ (n : Nat) (E : Term) (st : Int), isE n E → VO s t E → st ≤ most → RE s t most st n E (envE o E st) := by
  intro n
  induction n with
  | zero =>
    intro E st h hV hst
    cases E with
    | null => exact ⟨⟨Int.le_refl _, hst⟩, Or.inl rfl, fun _ => ⟨rfl, trivial, trivial, fun x _ => rfl⟩⟩
    | _ => exact h.elim
  | succ n ih =>
    intro E st h hV hst
    cases E with
    | mul r x =>
      have hV : VO s t r ∧ (x = .null ∨ (isV x = true ∧ VO s t x)) := hV
      have hr : isE n r := h
      have hl := isE_len n r hr
      obtain ⟨a1, a2, a3⟩ := ih r st hr hV.1 hst
      show RE s t most st (n + 1) (.mul r x) (bnR (envE o r st) (fun st R => bnR (optE (fun x => o x st) st x) (fun st y => rok st (.mul R y))))
      by_cases e : (envE o r st).2.1 = 0
      · rw [bnR_0 e]
        obtain ⟨b1, b2, b3, b4⟩ := a3 e
        have hl2 := isE_len n _ b2
        by_cases hx : x = .null
        · subst hx
          rw [optE_n]
          refine ⟨a1, Or.inl rfl, fun _ => ⟨rfl, b2, ⟨b3, Or.inl rfl⟩, fun z hz => ?_⟩⟩
          show (if (mlen r : Int) = z then Term.null else lkE r z) = .null
          by_cases q2 : (mlen r : Int) = z
          · rw [if_pos q2]
          · rw [if_neg q2]
            refine b4 z ?_
            have hz : (if (mlen (envE o r st).2.2.2 : Int) = z then Term.null else lkE (envE o r st).2.2.2 z) = .null := hz
            rw [if_neg (by omega)] at hz
            exact hz
        · rw [optE_v hx]
          obtain ⟨q1, q2⟩ := hV.2.resolve_left hx
          obtain ⟨c1, c2, c3⟩ := ho x (envE o r st).1 q1 q2 a1.2
          by_cases e2 : (o x (envE o r st).1).2.1 = 0
          · rw [bnR_0 e2]
            obtain ⟨d1, d2, d3⟩ := c3 e2
            refine ⟨⟨by show st ≤ (o x (envE o r st).1).1; omega, c1.2⟩, Or.inl rfl, fun _ => ⟨rfl, b2, ⟨b3, Or.inr ⟨d2, d3⟩⟩, fun z hz => ?_⟩⟩
            have hz : (if (mlen (envE o r st).2.2.2 : Int) = z then (o x (envE o r st).1).2.2.2 else lkE (envE o r st).2.2.2 z) = .null := hz
            show (if (mlen r : Int) = z then x else lkE r z) = .null
            by_cases q3 : (mlen r : Int) = z
            · rw [if_pos (by omega)] at hz
              exact absurd hz (isV_nn d2)
            · rw [if_neg (by omega)] at hz
              rw [if_neg q3]
              exact b4 z hz
          · rw [bnR_n e2]
            exact ⟨⟨by omega, c1.2⟩, c2, fun q => absurd q e2⟩
      · rw [bnR_n e]
        exact ⟨a1, a2, fun q => absurd q e⟩
    | _ => exact h.elim
theorem RO_frm {most st b : Int} {rs : Int → Int} {r : RS} (h : RO s t most st r) : RO s t most st (frmE rs b r) := by
  unfold frmE
  split
  · exact RO_bn h (fun st' v s1 s2 v1 v2 => RO_ok s2 rfl ⟨v1, v2⟩)
  · exact h
/-- nothing in the sheet is filled -/
def FN (s : SM) (t : Term) : Prop := ∀ y, y ∈ fl t → s.2 9 y = 0 → fllF (s.2 42) y = y
theorem tgt_f {b : Int} (hF : FN s t) (h2 : tgt s t b = b → s.2 9 b = 0) (hq : fllF (s.2 42) b ≠ b) : tgt s t b = fllF (s.2 42) b := by
  unfold tgt
  by_cases e : b ∈ fl t
  · exact absurd (hF b e (h2 (if_pos e))) hq
  · exact if_neg e
theorem evw_okw (h : SHT s t) (hN : NB s) (hR : RSN s t) (most : Int) : ∀ n : Nat, (∀ b E st, b ∈ fl t → isE 26 E → VN s t E → cov s b E → st ≤ most → RO s t most st ((evw (s.2 9) (s.2 10) (s.2 14) (s.2 21) (s.2 42) most n).1 b E st)) := by
  intro n
  induction n with
  | zero => exact fun b E st _ _ _ _ hst => RO_st hst (by decide)
  | succ n hw =>
    intro b E st hb hE hV hc hst
    show RO s t most st (if st = most then rst st 4 b else frmE (s.2 21) b (wplE (s.2 9) (s.2 10) (s.2 14) (s.2 21) (evw (s.2 9) (s.2 10) (s.2 14) (s.2 21) (s.2 42) most n).1 b E (st + 1)))
    by_cases e : st = most
    · rw [if_pos e]; exact RO_st hst (by decide)
    · rw [if_neg e]
      obtain ⟨g1, g2, g3⟩ := RO_frm (rs := s.2 21) (b := b) (work_ok1 h hN hR hw hb hE hV hc (show st + 1 ≤ most by omega))
      exact ⟨⟨by omega, g1.2⟩, g2, g3⟩
theorem evw_ok (h : SHT s t) (hN : NB s) (hR : RSN s t) (hF : FN s t) (most : Int) : ∀ n : Nat, (∀ b E st, b ∈ fl t → isE 26 E → VN s t E → cov s b E → st ≤ most → RO s t most st ((evw (s.2 9) (s.2 10) (s.2 14) (s.2 21) (s.2 42) most n).1 b E st)) ∧ (∀ v st, isV v = true → VO s t v → st ≤ most → RO s t most st ((evw (s.2 9) (s.2 10) (s.2 14) (s.2 21) (s.2 42) most n).2 v st)) := by
  intro n
  induction n with
  | zero => exact ⟨fun b E st _ _ _ _ hst => RO_st hst (by decide), fun v st _ _ hst => RO_st hst (by decide)⟩
  | succ n ih =>
    obtain ⟨hw, ho⟩ := ih
    refine ⟨evw_okw h hN hR most (n + 1), fun v st hv hV hst => ?_⟩
    · show RO s t most st (if st = most then rst st 4 (-9) else oplE (s.2 9) (s.2 10) (s.2 14) (s.2 42) (evw (s.2 9) (s.2 10) (s.2 14) (s.2 21) (s.2 42) most n).1 (evw (s.2 9) (s.2 10) (s.2 14) (s.2 21) (s.2 42) most n).2 v (st + 1))
      by_cases e : st = most
      · rw [if_pos e]; exact RO_st hst (by decide)
      · rw [if_neg e]
        have hs1 : st + 1 ≤ most := by omega
        suffices hg : RO s t most (st + 1) (oplE (s.2 9) (s.2 10) (s.2 14) (s.2 42) (evw (s.2 9) (s.2 10) (s.2 14) (s.2 21) (s.2 42) most n).1 (evw (s.2 9) (s.2 10) (s.2 14) (s.2 21) (s.2 42) most n).2 v (st + 1)) by
          obtain ⟨g1, g2, g3⟩ := hg
          exact ⟨⟨by omega, g1.2⟩, g2, g3⟩
        cases v with
        | sub d E =>
          cases d with
          | index d =>
            obtain ⟨d1, d2, d3, d4⟩ := hV
            exact RE_bn (env_ok ho 26 E _ d3 d4 hs1) (fun st' F s1 s2 f1 f2 f3 => RO_ok s2 rfl ⟨d1, fun x x0 x1 hx q => d2 x x0 x1 hx (f3 x q), f1, f2⟩)
          | _ => cases hv
        | add A B =>
          obtain ⟨⟨a1, a2⟩, b1, b2⟩ := hV
          exact RO_bn (ho A _ a1 a2 hs1) (fun st' x s1 s2 x1 x2 => RO_bn (ho B _ b1 b2 s2) (fun st'' y s3 s4 y1 y2 => RO_ok s4 rfl ⟨⟨x1, x2⟩, y1, y2⟩))
        | div b E =>
          cases b with
          | index b =>
            obtain ⟨⟨d0, d1, d2⟩, d3, d4, d5⟩ := hV
            refine RE_bn (env_ok ho 26 E _ d4 d5 hs1) (fun st' F s1 s2 f1 f2 f3 => ?_)
            have hcF : cov s (tgt s t b) F := fun x x0 x1 hx q => d3 x x0 x1 hx (f3 x q)
            by_cases q : fllF (s.2 42) b = b
            · rw [if_pos q]
              have ht : tgt s t b = b := by
                unfold tgt
                split
                · rfl
                · exact q
              rw [ht] at d1 d2 hcF
              exact RO_ok s2 rfl ⟨⟨d0, d1, d2⟩, hcF, f1, f2⟩
            · rw [if_neg q]
              have ht := tgt_f hF d2 q
              rw [ht] at d1 hcF
              exact hw _ _ _ d1 f1 f2 hcF s2
          | _ => cases hv
        | length A =>
          obtain ⟨a1, a2⟩ := hV
          exact RO_bn (ho A _ a1 a2 hs1) (fun st' x s1 s2 x1 x2 => RO_ok s2 rfl ⟨x1, x2⟩)
        | rem b q =>
          cases b with
          | index b =>
            cases q with
            | elem A q =>
              cases q with
              | elem B E =>
                obtain ⟨⟨b1, a1, a2⟩, hcase⟩ := hV
                refine RO_bn (ho A _ a1 a2 hs1) (fun st1 x s1 s2 x1 x2 => ?_)
                rcases hcase with ⟨so, B1, B2, rfl⟩ | ⟨so, rfl, E1, E2, E3⟩ | ⟨so, rfl, rfl⟩
                · rw [optE_v (isV_nn B1)]
                  refine RO_bn (ho B _ B1 B2 s2) (fun st2 y s3 s4 y1 y2 => ?_)
                  rw [optE_n, bnR_0 rfl]
                  exact act_ok h hN hw b1 s4 ⟨x1, x2⟩ (by omega) (fun _ => ⟨y1, y2⟩) (fun q => by omega)
                · rw [optE_n, bnR_0 rfl, optE_v (fun q => by rw [q] at E1; exact E1.elim)]
                  refine RE_bn (env_ok ho 26 E _ E1 E3 s2) (fun st2 F s3 s4 f1 f2 f3 => ?_)
                  exact act_ok h hN hw b1 s4 ⟨x1, x2⟩ (by omega) (fun q => by omega) (fun _ => ⟨f1, f2, fun z z0 z1 hz q => E2 z z0 z1 hz (f3 z q)⟩)
                · rw [optE_n, bnR_0 rfl, optE_n, bnR_0 rfl]
                  exact act_ok h hN hw b1 s2 ⟨x1, x2⟩ (by omega) (fun q => by omega) (fun q => by omega)
              | _ => cases hv
            | _ => cases hv
          | _ => cases hv
        | int n => exact RO_ok hs1 hv hV
        | arg n => exact RO_ok hs1 hv hV
        | index n => exact RO_ok hs1 hv hV
        | _ => cases hv
end
