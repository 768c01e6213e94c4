/-! The shelf: shelve(), fill(). -/
/-- what a node bears is right, kinds below n -/
def bearOk (n so nu td : Int) : Prop := (0 ≤ so ∧ so < 16) ∧ ((so = 3 ∨ so = 8 ∨ so = 10) → 0 ≤ nu ∧ nu < 26) ∧ (so = 2 → nu = 0 ∨ nu = 1) ∧ ((so = 8 ∨ so = 15) → 0 ≤ td ∧ td < n) ∧ nvl so nu = nu ∧ kvl so td = td
/-- numbers, kinds are there just where a sort bears them -/
def NV (s : SM) : Prop := ∀ x, 0 ≤ x → x < s.1 8 → nvl (s.2 9 x) (s.2 10 x) = s.2 10 x ∧ kvl (s.2 9 x) (s.2 11 x) = s.2 11 x
theorem NV.x {ey ef : List Nat} {s w : SM} (h : NV s) (hx : SX ey ef s w) (h8 : s.1 8 ≤ 3000) (hy : 8 ∉ ey) (hf : 9 ∉ ef ∧ 10 ∉ ef ∧ 11 ∉ ef) : NV w := fun x h0 h1 => by
  rw [hx.1 8 (by decide) hy] at h1
  have hi : ∀ f, (f = 9 ∨ f = 10 ∨ f = 11) → ¬ scI f x := fun f q => by unfold scI; omega
  rw [hx.2 9 (by decide) hf.1 x (hi 9 (by decide)), hx.2 10 (by decide) hf.2.1 x (hi 10 (by decide)), hx.2 11 (by decide) hf.2.2 x (hi 11 (by decide))]
  exact h x h0 h1
/-- a place of the shelf has a tree as it was -/
def SE (s : SM) (p : Int) (e : Snap) : Prop := s.2 37 p = (fl e.1).length ∧ (AT (e.2.2 9) (e.2.2 14) (e.2.2 12) (e.2.2 13) (e.2.1 8) e.1 ∧ full (e.2.2 9) e.1 ∧ (fl e.1).Nodup ∧ (fl e.1).length ≤ 60) ∧ ∀ (k : Nat) (x : Int), (fl e.1)[k]? = some x → (s.2 38 (60 * p + k) = e.2.2 9 x ∧ s.2 39 (60 * p + k) = e.2.2 10 x ∧ s.2 40 (60 * p + k) = e.2.2 11 x) ∧ bearOk (s.1 2) (e.2.2 9 x) (e.2.2 10 x) (e.2.2 11 x)
def ShL (s : SM) (Sh : Int → Option Snap) : Prop := ∀ p, 0 ≤ p → p < 6 → (Sh p = none → s.2 37 p = 0) ∧ ∀ e, Sh p = some e → SE s p e
def shP (Sh : Int → Option Snap) (p : Int) (e : Snap) : Int → Option Snap := fun q => if q = p then some e else Sh q
theorem bearOk_up {n m so nu td : Int} (h : bearOk n so nu td) (hm : n ≤ m) : bearOk m so nu td := ⟨h.1, h.2.1, h.2.2.1, fun q => by have := h.2.2.2.1 q; omega, h.2.2.2.2⟩
theorem SE_up {s w : SM} {p : Int} {e : Snap} (h : SE s p e) (h2 : s.1 2 ≤ w.1 2) (hr : w.2 37 p = s.2 37 p) (hk : ∀ k : Nat, (k : Int) < s.2 37 p → w.2 38 (60 * p + k) = s.2 38 (60 * p + k) ∧ w.2 39 (60 * p + k) = s.2 39 (60 * p + k) ∧ w.2 40 (60 * p + k) = s.2 40 (60 * p + k)) : SE w p e := by
  obtain ⟨a1, a2, a3⟩ := h
  refine ⟨hr.trans a1, a2, fun k x hx => ?_⟩
  obtain ⟨⟨b1, b2, b3⟩, b4⟩ := a3 k x hx
  have := (List.getElem?_eq_some_iff.mp hx).1
  obtain ⟨c1, c2, c3⟩ := hk k (by omega)
  exact ⟨⟨c1.trans b1, c2.trans b2, c3.trans b3⟩, bearOk_up b4 h2⟩
theorem ShL.x {ey ef : List Nat} {s w : SM} {Sh : Int → Option Snap} (h : ShL s Sh) (hx : SX ey ef s w) (hy : 2 ∉ ey) (hf : 37 ∉ ef ∧ 38 ∉ ef ∧ 39 ∉ ef ∧ 40 ∉ ef) : ShL w Sh := fun p p0 p6 => by
  obtain ⟨h1, h2⟩ := h p p0 p6
  have e : ∀ f i, (f = 37 ∨ f = 38 ∨ f = 39 ∨ f = 40) → w.2 f i = s.2 f i := fun f i q => hx.2 f (by rcases q with rfl | rfl | rfl | rfl <;> decide) (by rcases q with rfl | rfl | rfl | rfl; exact hf.1; exact hf.2.1; exact hf.2.2.1; exact hf.2.2.2) i (by unfold scI; omega)
  refine ⟨fun q => by rw [e 37 p (by decide)]; exact h1 q, fun u hu => SE_up (h2 u hu) (by rw [hx.1 2 (by decide) hy]; exact Int.le_refl _) (e 37 p (by decide)) (fun k _ => ⟨e 38 _ (by decide), e 39 _ (by decide), e 40 _ (by decide)⟩)⟩
theorem ShL.many {s : SM} {Sh : Int → Option Snap} (h : ShL s Sh) : ∀ p, 0 ≤ p → p < 6 → 0 ≤ s.2 37 p ∧ s.2 37 p ≤ 60 := fun p p0 p6 => by
  obtain ⟨h1, h2⟩ := h p p0 p6
  cases e : Sh p with
  | none => rw [h1 e]; decide
  | some u =>
    obtain ⟨a1, a2, a3⟩ := h2 u e
    rw [a1]
    have := a2.2.2.2
    omega
/-- a tree with births of its own, from B on -/
def rlb : Term → Nat → Term
  | .add t x, B => .add (rlb t B) (rlb x (B + (fl t).length))
  | _, B => .index B
theorem rlb_fl {so pa up pl : Int → Int} {B0 : Int} : ∀ (t : Term) (B : Nat), AT so pa up pl B0 t → fl (rlb t B) = (List.range' B (fl t).length).map Int.ofNat ∧ hd (rlb t B) = B ∧ na (rlb t B) = na t := by
  intro t
  induction t with
  | index n => intro B _; exact ⟨rfl, rfl, rfl⟩
  | add t x ih ihx =>
    intro B h
    obtain ⟨h1, h2, -⟩ := h
    obtain ⟨a1, a2, a3⟩ := ih B h1
    obtain ⟨b1, b2, b3⟩ := ihx (B + (fl t).length) h2
    refine ⟨?_, a2, by show na (rlb t B) + 1 = na t + 1; rw [a3]⟩
    show fl (rlb t B) ++ fl (rlb x (B + (fl t).length)) = _
    rw [a1, b1, ← List.map_append, List.range'_append_1]
    show _ = (List.range' B (fl t ++ fl x).length).map Int.ofNat
    rw [List.length_append]
  | _ => intro B h; exact h.elim
theorem rlb_at {so pa up pl : Int → Int} {B0 : Int} {t : Term} {B : Nat} (h : AT so pa up pl B0 t) {y : Int} (hy : y ∈ fl (rlb t B)) : (B : Int) ≤ y ∧ y < B + (fl t).length := by
  rw [(rlb_fl t B h).1] at hy
  obtain ⟨z, h1, h2⟩ := List.mem_map.mp hy
  obtain ⟨h3, h4⟩ := List.mem_range'_1.mp h1
  rw [← h2]
  show (B : Int) ≤ (z : Int) ∧ (z : Int) < _
  omega
theorem rlb_nd {so pa up pl : Int → Int} {B0 : Int} {t : Term} {B : Nat} (h : AT so pa up pl B0 t) : (fl (rlb t B)).Nodup := by
  rw [(rlb_fl t B h).1, List.nodup_iff_pairwise_ne, List.pairwise_map]
  exact (List.nodup_iff_pairwise_ne.mp List.nodup_range').imp (fun q e => q (Int.ofNat.inj e))
/-- nodes born anew by what is on the shelf -/
def BF (z s w : SM) (t : Term) : Prop := w.1 8 = s.1 8 + (fl t).length ∧ w.1 41 = s.1 41 + (fl t).length ∧ ATs w (rlb t (s.1 8).toNat) ∧ OLD (fun y => y < s.1 8) s w ∧ eqx [8, 41] [9, 10, 11, 12, 13, 14] s w ∧ ∀ (k : Nat) (x : Int), (fl t)[k]? = some x → w.2 9 (s.1 8 + k) = z.2 9 x ∧ w.2 10 (s.1 8 + k) = z.2 10 x ∧ w.2 11 (s.1 8 + k) = z.2 11 x
/-- what the shelf has from here on -/
def BR (z s : SM) (p : Int) (t : Term) : Prop := ∀ (k : Nat) (x : Int), (fl t)[k]? = some x → (s.2 38 (60 * p + (s.1 41 + k)) = z.2 9 x ∧ s.2 39 (60 * p + (s.1 41 + k)) = z.2 10 x ∧ s.2 40 (60 * p + (s.1 41 + k)) = z.2 11 x) ∧ (nvl (z.2 9 x) (z.2 10 x) = z.2 10 x ∧ kvl (z.2 9 x) (z.2 11 x) = z.2 11 x)
section
variable {iv : List (Int × Int)} {L : Nat} {h0 : MH} {s : SM} {t : Term} {d : Nat}
theorem bf_part {z : SM} {p : Int} (hp : 0 ≤ p ∧ p < 6) : ∀ (t : Term), AT (z.2 9) (z.2 14) (z.2 12) (z.2 13) (z.1 8) t → ∀ (D : Nat) (s : SM) (F : Int → SM → Prop), BR z s p t → dpt t ≤ D → 0 ≤ s.1 8 → s.1 8 + (fl t).length ≤ 3000 → 0 ≤ s.1 41 → s.1 41 + (fl t).length ≤ 60 →
    (∀ w, BF z s w t → wm iv L h0 (D + 1) 114 46 [lr 307, li p, ln, li (s.1 8), li (na t)] [] w (qi F)) → cm iv L h0 (D + 1) 114 [vr 307, vi p] s (qi F) := by
  intro t
  induction t with
  | index n =>
    intro h D s F hR hD h8 hl h41 hl2 hw
    obtain ⟨D, rfl⟩ : ∃ k, D = k + 1 := ⟨D - 1, by have : dpt (Term.index n) = 1 := rfl; omega⟩
    have h1 : (fl (Term.index n)).length = 1 := rfl
    obtain ⟨⟨r1, r2, r3⟩, r4, r5⟩ := hR 0 n rfl
    rw [show 60 * p + (s.1 41 + ((0 : Nat) : Int)) = 60 * p + s.1 41 by omega] at r1 r2 r3
    refine B114 ⟨by omega, by omega, by omega, by omega, born_ok (s := us s 41 (s.1 41 + 1)) ⟨h8, by show s.1 8 < 3004; omega⟩ ?_⟩
    have g8 : (us s 41 (s.1 41 + 1)).1 8 = s.1 8 := rfl
    rw [r1, r2, r3]
    refine hw _ ⟨?_, ?_, ⟨?_, ?_⟩, bornU_o, ?_, fun k x hk => ?_⟩
    · rw [h1]; rfl
    · rw [h1]; rfl
    · show (((s.1 8).toNat : Nat) : Int) < s.1 8 + 1; omega
    · have := bornU_at (s := us s 41 (s.1 41 + 1)) (so := z.2 9 n) (v := z.2 10 n) (k := z.2 11 n)
      rw [show (((s.1 8).toNat : Nat) : Int) = (us s 41 (s.1 41 + 1)).1 8 from by rw [g8]; omega, this.1]
      exact h.2
    · exact (eqx_us (s := s) (t := s) eqx.rf (y := 41) (z := s.1 41 + 1) (by decide)).tr (bornU_e.up (fun y q => by simp at q ⊢; omega) (fun y q => by simp at q ⊢; omega))
    · have hk : [(n : Int)][k]? = some x := hk
      cases k with
      | zero =>
        simp at hk
        subst hk
        have := bornU_at (s := us s 41 (s.1 41 + 1)) (so := z.2 9 n) (v := z.2 10 n) (k := z.2 11 n)
        rw [g8, r4, r5] at this
        rw [show s.1 8 + ((0 : Nat) : Int) = s.1 8 by omega]
        exact this
      | succ k => simp at hk
  | add t x ih ihx =>
    intro h D s F hR hD h8 hl h41 hl2 hw
    obtain ⟨h1, h2, h3, h4, h5, h6, h7⟩ := h
    have hlen : (fl (Term.add t x)).length = (fl t).length + (fl x).length := by show (fl t ++ fl x).length = _; simp
    have hdp : dpt (Term.add t x) = max (dpt t) (dpt x + 1) := rfl
    obtain ⟨D, rfl⟩ : ∃ k, D = k + 1 := ⟨D - 1, by omega⟩
    have m1 := AT_mem t h1 _ (hd_mem t h1)
    have m2 := AT_mem x h2 _ (hd_mem x h2)
    have n1 := na_ge t
    have p1 := pO_in (z.2 9 (hd t))
    have lt0 := List.length_pos_of_mem (hd_mem t h1)
    have lx0 := List.length_pos_of_mem (hd_mem x h2)
    obtain ⟨rt, et⟩ := fl_hd t h1
    obtain ⟨rx, ex⟩ := fl_hd x h2
    refine ih h1 (D + 1) s F (fun k y hk => hR k y (by show (fl t ++ fl x)[k]? = some y; rw [List.getElem?_append_left (List.getElem?_eq_some_iff.mp hk).1]; exact hk)) (by omega) h8 (by omega) h41 (by omega) (fun w hw1 => ?_)
    obtain ⟨a1, a2, a3, a4, a5, a6⟩ := hw1
    have w9 : w.2 9 (s.1 8) = z.2 9 (hd t) := by
      have := (a6 0 (hd t) (by rw [et]; rfl)).1
      rw [show s.1 8 + ((0 : Nat) : Int) = s.1 8 by omega] at this
      exact this
    refine B114_46 ⟨by omega, by rw [w9]; exact m1.2.1, fun e => ?_, fun _ => ?_⟩
    · exfalso
      rw [w9] at e
      omega
    · refine ihx h2 D w _ (fun k y hk => ?_) (by omega) (by omega) (by omega) (by omega) (by omega) (fun v hv => ?_)
      · have := hR ((fl t).length + k) y (by show (fl t ++ fl x)[(fl t).length + k]? = some y; rw [List.getElem?_append_right (by omega), Nat.add_sub_cancel_left]; exact hk)
        rw [a5.2 38 (by decide), a5.2 39 (by decide), a5.2 40 (by decide), a2, show s.1 41 + ((fl t).length : Int) + (k : Int) = s.1 41 + (((fl t).length + k : Nat) : Int) by omega]
        exact this
      · obtain ⟨b1, b2, b3, b4, b5, b6⟩ := hv
        have v9 : v.2 9 (w.1 8) = z.2 9 (hd x) := by
          have := (b6 0 (hd x) (by rw [ex]; rfl)).1
          rw [show w.1 8 + ((0 : Nat) : Int) = w.1 8 by omega] at this
          exact this
        refine B114_46 ⟨by omega, by rw [v9]; exact m2.2.1, fun _ => ?_, fun e => ?_⟩
        · have e8 : (w.1 8).toNat = (s.1 8).toNat + (fl t).length := by omega
          have e88 : (((s.1 8).toNat : Nat) : Int) = s.1 8 := by omega
          obtain ⟨c1, c2, c3⟩ := rlb_fl t (s.1 8).toNat h1
          obtain ⟨d1, d2, d3⟩ := rlb_fl x ((s.1 8).toNat + (fl t).length) h2
          have pe := partU_e (s := v) (b := s.1 8) (i := na t) (c := w.1 8)
          have pt := partU_at (s := v) (b := s.1 8) (i := na t) (c := w.1 8)
          have po := partU_o (s := v) (b := s.1 8) (i := na t) (c := w.1 8) ⟨n1, by omega⟩
          refine setPart_ok (by omega) (by omega) (by omega) ⟨by omega, hw _ ⟨?_, ?_, ?_, ?_, ?_, fun k y hk => ?_⟩⟩
          · show v.1 8 = _; omega
          · show v.1 41 = _; omega
          · -- the tree behind it
            have vt : ATs v (rlb t (s.1 8).toNat) := AT_ag (by omega) a3 (rlb_nd h1) (fun y hy => by
              have hy2 := rlb_at h1 hy
              obtain ⟨q1, q2, q3⟩ := b4 y (by omega)
              exact ⟨q1.1, q2.1, q2.2, fun i i0 i3 => q3 i i0 i3⟩)
            rw [e8] at b3
            refine ⟨?_, ?_, ?_, ?_, ?_, ?_, ?_⟩
            · refine AT_cg (Int.le_refl _) _ vt (rlb_nd h1) (fun y hy => ⟨by rw [pe.2 9 (by decide)], fun i i0 i1 i2 => ?_⟩) (fun y hy hne => ?_)
              · have hy2 := rlb_at h1 hy
                by_cases e : y = s.1 8
                · have i2 := i2 (by rw [c2, e, e88])
                  rw [c3] at i2
                  subst e
                  simp only [partU, ua_2]
                  rw [if_neg (by omega), if_neg (by omega), if_neg (by omega)]
                · exact (po y ⟨e, by omega⟩).2.2 i i0 (by have := pO_in (v.2 9 y); omega)
              · have hy2 := rlb_at h1 hy
                rw [c2, e88] at hne
                exact (po y ⟨hne, by omega⟩).2.1
            · refine AT_cg (Int.le_refl _) _ b3 (rlb_nd h2) (fun y hy => ⟨by rw [pe.2 9 (by decide)], fun i i0 i1 i2 => ?_⟩) (fun y hy hne => ?_)
              · have hy2 := rlb_at h2 hy
                have := pO_in (v.2 9 y)
                simp only [partU, ua_2]
                rw [if_neg (by omega), if_neg (by omega), if_neg (by omega)]
              · have hy2 := rlb_at h2 hy
                rw [d2] at hne
                exact (po y ⟨by omega, by omega⟩).2.1
            · show na (rlb x _) = pO ((partU v _ _ _).2 9 (hd (rlb x _)))
              rw [d3, d2, pe.2 9 (by decide), show (((s.1 8).toNat + (fl t).length : Nat) : Int) = w.1 8 by omega, v9, ← h3]
            · rw [c2, c3, e88, pe.2 9 (by decide)]
              have := (b4 (s.1 8) (by omega)).1.1
              rw [this, w9]
              exact h4
            · rw [c2, c3, d2, e88, show (((s.1 8).toNat + (fl t).length : Nat) : Int) = w.1 8 by omega]; exact pt.1
            · rw [c2, d2, e88, show (((s.1 8).toNat + (fl t).length : Nat) : Int) = w.1 8 by omega]; exact pt.2.1
            · rw [c3, d2, show (((s.1 8).toNat + (fl t).length : Nat) : Int) = w.1 8 by omega]; exact pt.2.2
          · exact (a4.tr (b4.mo (fun y (q : y < s.1 8) => by omega))).tr (po.mo (fun y (q : y < s.1 8) => by omega))
          · exact (a5.tr b5).tr (pe.up (fun _ q => by cases q) (fun y q => by simp at q ⊢; omega))
          · rw [pe.2 9 (by decide), pe.2 10 (by decide), pe.2 11 (by decide)]
            have hk : (fl t ++ fl x)[k]? = some y := hk
            by_cases hkt : k < (fl t).length
            · rw [List.getElem?_append_left hkt] at hk
              obtain ⟨⟨q1, q2, q3⟩, -⟩ := b4 (s.1 8 + k) (by omega)
              obtain ⟨q4, q5, q6⟩ := a6 k y hk
              exact ⟨q1.trans q4, q2.trans q5, q3.trans q6⟩
            · rw [List.getElem?_append_right (by omega)] at hk
              have := b6 (k - (fl t).length) y hk
              rw [show w.1 8 + ((k - (fl t).length : Nat) : Int) = s.1 8 + (k : Int) by omega] at this
              exact this
        · exfalso
          rw [v9, ← h3] at e
          omega
  | _ => intro h; exact h.elim
theorem bornFrom_ok {z : SM} {p : Int} {D : Nat} {F : Int → SM → Prop} (hp : 0 ≤ p ∧ p < 6) (h : AT (z.2 9) (z.2 14) (z.2 12) (z.2 13) (z.1 8) t) (hf : full (z.2 9) t) (hR : BR z s p t) (hD : dpt t ≤ D) (h8 : 0 ≤ s.1 8) (hl : s.1 8 + (fl t).length ≤ 3000) (h41 : 0 ≤ s.1 41) (hl2 : s.1 41 + (fl t).length ≤ 60) (hF : ∀ w, BF z s w t → F (s.1 8) w) : cm iv L h0 (D + 1) 114 [vr 307, vi p] s (qi F) := by
  refine bf_part hp t h D s F hR hD h8 hl h41 hl2 (fun w hw => ?_)
  have m1 := AT_mem t h _ (hd_mem t h)
  have lt0 := List.length_pos_of_mem (hd_mem t h)
  obtain ⟨rt, et⟩ := fl_hd t h
  have w9 : w.2 9 (s.1 8) = z.2 9 (hd t) := by
    have := (hw.2.2.2.2.2 0 (hd t) (by rw [et]; rfl)).1
    rw [show s.1 8 + ((0 : Nat) : Int) = s.1 8 by omega] at this
    exact this
  have hDp := dpt_pos t
  obtain ⟨D, rfl⟩ : ∃ k, D = k + 1 := ⟨D - 1, by omega⟩
  refine B114_46 ⟨by omega, by rw [w9]; exact m1.2.1, fun _ => hF w hw, fun e => ?_⟩
  exfalso
  rw [w9, ← hf] at e
  omega
/-- shelve() -/
def shvA (s : SM) (n p : Int) : Int := if 0 ≤ p ∧ p < 6 then n else -1
theorem shelve_ok {p : Int} {F : Int → SM → Prop} {Sh : Int → Option Snap} (h : SHT s t) (hN : NB s) (hV : NV s) (hc : s.1 16 ∈ fl t) (hS : ShL s Sh) (hD : 100 ≤ d) (H1 : ¬ (0 ≤ p ∧ p < 6) → F (-1) s) (H2 : 0 ≤ p ∧ p < 6 → ∀ w, SX [] [37, 38, 39, 40] s w → ShL w (shP Sh p (sq (s.1 16) t, s)) → F (fl (sq (s.1 16) t)).length w) : cm iv L h0 d 113 [vr 307, vi p] s (qi F) := by
  obtain ⟨d, rfl⟩ : ∃ k, d = k + 1 := ⟨d - 1, by omega⟩
  obtain ⟨a1, a2, a3, a4, a5, a6, a7⟩ := sq_ok h.1 h.2.1 h.2.2.1 hc
  have hll := h.2.2.2.1
  refine B113 ⟨fun hp => sizeOf_ok h hc (by omega) (fun w w1 w2 => ⟨by omega, ?_⟩), fun hp => H1 (by omega)⟩
  have key : ∀ (m q : List Int) (x : SM), fl (sq (s.1 16) t) = q ++ m → eqx [] [38, 39, 40] (ua w 37 p (fl (sq (s.1 16) t)).length) x → (∀ (k : Nat) (y : Int), q[k]? = some y → x.2 38 (60 * p + k) = s.2 9 y ∧ x.2 39 (60 * p + k) = s.2 10 y ∧ x.2 40 (60 * p + k) = s.2 11 y) → (∀ y, y < 60 * p ∨ 60 * p + 60 ≤ y → x.2 38 y = s.2 38 y ∧ x.2 39 y = s.2 39 y ∧ x.2 40 y = s.2 40 y) → wm iv L h0 (d + 1) 113 29 [lr 307, li p, li (fl (sq (s.1 16) t)).length, li q.length] [] x (qi F) := by
    intro m
    induction m with
    | nil =>
      intro q x e x1 x2 x3
      have eq : q = fl (sq (s.1 16) t) := by rw [e]; simp
      have x37 : ∀ y, x.2 37 y = if y = p then ((fl (sq (s.1 16) t)).length : Int) else s.2 37 y := fun y => by
        rw [x1.2 37 (by decide), ua_2, w1.2 37 (by decide)]
        by_cases e1 : y = p
        · rw [if_pos ⟨rfl, e1⟩, if_pos e1]
        · rw [if_neg (by omega), if_neg e1]
      have x2' : x.1 2 = s.1 2 := (x1.1 2 (by decide)).trans (w1.1 2 (by decide))
      refine B113_29 ⟨fun _ => H2 (by omega) x ?_ (fun r r0 r6 => ⟨fun hn => ?_, fun u hu => ?_⟩), fun q2 => by rw [eq] at q2; omega⟩
      · refine (SX_lay w1).up (fun _ q => by cases q) (fun _ q => by cases q) |>.tr ⟨fun y _ _ => ?_, fun f _ b2 i _ => ?_⟩
        · exact x1.1 y (by simp)
        · simp at b2
          rw [x1.2 f (by simp; omega), ua_2, if_neg (by omega)]
      · unfold shP at hn
        by_cases e1 : r = p
        · rw [if_pos e1] at hn; cases hn
        · rw [if_neg e1] at hn
          rw [x37, if_neg e1]
          exact (hS r r0 r6).1 hn
      · unfold shP at hu
        by_cases e1 : r = p
        · rw [if_pos e1] at hu
          cases hu
          subst e1
          refine ⟨by rw [x37, if_pos rfl], ⟨a1, a2, a5, Nat.le_trans a6 hll⟩, fun k y hk => ?_⟩
          refine ⟨x2 k y (by rw [eq]; exact hk), ?_⟩
          have hy := h.lt (a4 y (List.mem_of_getElem? hk))
          have nb := hN y hy.1 hy.2.1
          have nv := hV y hy.1 hy.2.1
          rw [x2']
          exact ⟨nb.1, nb.2.1, nb.2.2.1, nb.2.2.2, nv.1, nv.2⟩
        · rw [if_neg e1] at hu
          have := (hS r r0 r6).2 u hu
          have hm := hS.many r r0 r6
          exact SE_up this (by rw [x2']; exact Int.le_refl _) (by rw [x37, if_neg e1]) (fun k hk => x3 _ (by omega))
    | cons y m ih =>
      intro q x e x1 x2 x3
      obtain ⟨c1, c2⟩ := LR_cons w2 e
      have hy : y ∈ fl t := a4 y (by rw [e]; simp)
      have hyl := h.lt hy
      have e' := e
      rw [app1] at e'
      have e1 : ((q ++ [y]).length : Int) = q.length + 1 := by simp
      have hpl : (q.length : Int) < (fl (sq (s.1 16) t)).length := by rw [e]; simp; omega
      have x17 : x.2 17 q.length = y := by rw [x1.2 17 (by decide)]; exact c1
      have x9 : x.2 9 = s.2 9 := (x1.2 9 (by decide)).trans (w1.2 9 (by decide))
      have x10 : x.2 10 = s.2 10 := (x1.2 10 (by decide)).trans (w1.2 10 (by decide))
      have x11 : x.2 11 = s.2 11 := (x1.2 11 (by decide)).trans (w1.2 11 (by decide))
      refine B113_29 ⟨fun q => by omega, fun _ => ?_⟩
      rw [x17, x9, x10, x11]
      refine ⟨by omega, by omega, by omega, by omega, by omega, by omega, ?_⟩
      have := ih (q ++ [y]) (ua (ua (ua x 38 (60 * p + q.length) (s.2 9 y)) 39 (60 * p + q.length) (s.2 10 y)) 40 (60 * p + q.length) (s.2 11 y)) e' (eqx_ua (eqx_ua (eqx_ua x1 (by decide)) (by decide)) (by decide)) (fun k y' hk => ?_) (fun y' hy' => ?_)
      · rw [e1] at this
        exact this
      · simp only [ua_2]
        by_cases hkp : k < q.length
        · rw [List.getElem?_append_left hkp] at hk
          rw [if_neg (by omega), if_neg (by omega), if_neg (by omega), if_neg (by omega), if_neg (by omega), if_neg (by omega), if_neg (by omega), if_neg (by omega), if_neg (by omega)]
          exact x2 k y' hk
        · rw [List.getElem?_append_right (by omega)] at hk
          have hk0 : k = q.length := by
            have := (List.getElem?_eq_some_iff.mp hk).1
            simp at this
            omega
          subst hk0
          simp at hk
          subst hk
          simp
      · simp only [ua_2]
        rw [if_neg (by omega), if_neg (by omega), if_neg (by omega), if_neg (by omega), if_neg (by omega), if_neg (by omega), if_neg (by omega), if_neg (by omega), if_neg (by omega)]
        exact x3 y' hy'
  refine key _ [] _ rfl eqx.rf (fun k y hk => by simp at hk) (fun y _ => ?_)
  show w.2 38 y = _ ∧ w.2 39 y = _ ∧ w.2 40 y = _
  rw [w1.2 38 (by decide), w1.2 39 (by decide), w1.2 40 (by decide)]
  exact ⟨rfl, rfl, rfl⟩
end
