/-! Acts: what ends each of them; put, take, unwrap, write. -/
theorem replU_in {s s1 : SM} {t : Term} {c b : Int} (h : SHT s t) (hc : c ∈ fl t) (e12 : s1.2 12 c = s.2 12 c) (e13 : s1.2 13 c = s.2 13 c) : ((replU s1 c b).2 12 b = s.2 12 c ∧ (replU s1 c b).2 13 b = s.2 13 c) ∧ (c ≠ hd t → (replU s1 c b).2 14 (3 * s.2 12 c + s.2 13 c) = b) ∧ ((replU s1 c b).1 15 = if c = hd t then b else s1.1 15) ∧ (∀ y, y ≠ b → (replU s1 c b).2 12 y = s1.2 12 y ∧ (replU s1 c b).2 13 y = s1.2 13 y) ∧ (∀ j, j ≠ 3 * s.2 12 c + s.2 13 c → (replU s1 c b).2 14 j = s1.2 14 j) := by
  unfold replU
  rw [e12, e13]
  by_cases e : s.2 12 c = -9
  · have et : c = hd t := Classical.byContradiction fun q => by
      have := h.lt ((AT_mem t h.1 c hc).2.2.2 q).1
      omega
    rw [if_pos e]
    refine ⟨⟨?_, ?_⟩, fun q => absurd et q, ?_, fun y hy => ⟨?_, ?_⟩, fun j hj => ?_⟩
    · simp [ua_2, us_2, e]
    · subst et
      simp [ua_2, us_2, h.2.2.2.2.2.2.2]
    · rw [if_pos et]
      rfl
    · simp [ua_2, us_2, hy]
    · simp [ua_2, us_2, hy]
    · simp [ua_2, us_2]
  · have et : c ≠ hd t := fun q => e (by rw [q]; exact h.2.2.2.2.2.2.1)
    rw [if_neg e]
    refine ⟨⟨?_, ?_⟩, fun _ => ?_, ?_, fun y hy => ⟨?_, ?_⟩, fun j hj => ?_⟩
    · simp [partU, ua_2]
    · simp [partU, ua_2]
    · simp [partU, ua_2]
    · rw [if_neg et]
      rfl
    · simp [partU, ua_2, hy]
    · simp [partU, ua_2, hy]
    · simp [partU, ua_2, hj]
/-- a part's node does not bear what it hangs on -/
theorem sb_up {so pa up pl : Int → Int} {B x : Int} : ∀ (t : Term), AT so pa up pl B t → (fl t).Nodup → x ∈ fl t → x ≠ hd t → up x ∉ fl (sb x t) := by
  intro t
  induction t with
  | index n => intro _ _ hx hn; exact absurd (List.mem_singleton.mp hx) hn
  | add t y ih ihy =>
    intro h hnd hx hn
    obtain ⟨h1, h2, h3, h4, h5, h6, h7⟩ := h
    obtain ⟨d1, d2, d3⟩ := List.nodup_append.mp hnd
    by_cases e : hd y = x
    · rw [show sb x (Term.add t y) = y from if_pos e, ← e, h6]
      exact fun q => d3 _ (hd_mem t h1) _ q rfl
    · by_cases q : x ∈ fl y
      · rw [show sb x (Term.add t y) = sb x y from by show (if hd y = x then y else if x ∈ fl y then sb x y else sb x t) = _; rw [if_neg e, if_pos q]]
        exact ihy h2 d2 q (Ne.symm e)
      · rw [show sb x (Term.add t y) = sb x t from by show (if hd y = x then y else if x ∈ fl y then sb x y else sb x t) = _; rw [if_neg e, if_neg q]]
        exact ih h1 d1 ((List.mem_append.mp hx).resolve_right q) hn
  | _ => intro h; exact h.elim
theorem sq_up {s : SM} {t : Term} {c : Int} (h : SHT s t) (hc : c ∈ fl t) : s.2 12 c ∉ fl (sq c t) := by
  unfold sq
  by_cases e : hd t = c
  · rw [if_pos e, ← e, h.2.2.2.2.2.2.1]
    intro q
    have := h.lt q
    omega
  · rw [if_neg e]
    exact sb_up t h.1 h.2.2.1 hc (Ne.symm e)
/-- part i -/
def prt (i : Int) : Term → Term
  | .add t x => if na t = i then x else prt i t
  | t => t
theorem prt_ok {so pa up pl : Int → Int} {B i : Int} : ∀ (t : Term), AT so pa up pl B t → (fl t).Nodup → 0 ≤ i → i < na t → AT so pa up pl B (prt i t) ∧ full so (prt i t) ∧ hd (prt i t) = pa (3 * hd t + i) ∧ (∀ y, y ∈ fl (prt i t) → y ∈ fl t) ∧ hd t ∉ fl (prt i t) ∧ (fl (prt i t)).Nodup ∧ (fl (prt i t)).length + 1 ≤ (fl t).length ∧ up (hd (prt i t)) = hd t ∧ pl (hd (prt i t)) = i := by
  intro t
  induction t with
  | index n => intro _ _ h0 h1; have h1 : i < 0 := h1; omega
  | add t x ih _ =>
    intro h hnd h0 h1
    obtain ⟨a1, a2, a3, a4, a5, a6, a7⟩ := h
    obtain ⟨d1, d2, d3⟩ := List.nodup_append.mp hnd
    have h1 : i < na t + 1 := h1
    have ht := hd_mem t a1
    have hl : (fl (Term.add t x)).length = (fl t).length + (fl x).length := by show (fl t ++ fl x).length = _; simp
    have hp : 0 < (fl t).length := List.length_pos_of_mem ht
    unfold prt
    by_cases e : na t = i
    · rw [if_pos e]
      refine ⟨a2, a3, by show hd x = pa (3 * hd t + i); rw [← e, a5], fun y hy => List.mem_append_right _ hy, fun q => d3 _ ht _ q rfl, d2, by omega, a6, by rw [a7, e]⟩
    · rw [if_neg e]
      obtain ⟨b1, b2, b3, b4, b5, b6, b7, b8, b9⟩ := ih a1 d1 h0 (by omega)
      exact ⟨b1, b2, b3, fun y hy => List.mem_append_left _ (b4 y hy), b5, b6, by omega, b8, b9⟩
  | _ => intro h; exact h.elim
theorem KP_s {s : SM} {t : Term} (h : SHT s t) (hN : NB s) (hc : s.1 16 ∈ fl t) : KP s (t, s) :=
  ⟨⟨h.1, h.2.1, h.2.2.1, h.2.2.2.1⟩, hc, h.2.2.2.2.2.2.1, h.2.2.2.2.2.2.2, fun x hx => by
    have := h.lt hx
    have := hN x this.1 this.2.1
    exact ⟨this.2.1, this.2.2.1⟩⟩
section
variable {iv : List (Int × Int)} {L : Nat} {h0 : MH} {s : SM} {t : Term} {d : Nat}
/-- the end of an act -/
theorem act_end {x s' w : SM} {a : Int} {F : SM → Prop} {K : List Snap} (h : SHT s t) (hN : NB s) (hc : s.1 16 ∈ fl t) (hK : KL s K) (hw : eqx [18, 30, 31] [17, 32, 33, 34] s w) (hA : AH w (t, s)) (hx : eqx [8, 15, 16, 41] [9, 10, 11, 12, 13, 14, 36, 42] w x) (h8 : s.1 8 ≤ x.1 8) (h9 : ∀ y, 0 ≤ y → y < s.1 8 → x.2 9 y = s.2 9 y) (hS : SX [] [] s' x)
    (hF : ∀ v, SX [24] [25, 26, 27, 28, 29] (us s' 35 (chg (s.1 35) a)) v → KL v (push K (t, s)) → F v) : cm iv L h0 d 100 [vr 307, vi a] x (qv F) := by
  have e24 : x.1 24 = s.1 24 := (hx.1 24 (by decide)).trans (hw.1 24 (by decide))
  have e35 : x.1 35 = s.1 35 := (hx.1 35 (by decide)).trans (hw.1 35 (by decide))
  have hKx : KL x K := KL_up hK h8 h9 e24 ⟨(hx.2 25 (by decide)).trans (hw.2 25 (by decide)), (hx.2 26 (by decide)).trans (hw.2 26 (by decide)), (hx.2 27 (by decide)).trans (hw.2 27 (by decide)), (hx.2 28 (by decide)).trans (hw.2 28 (by decide)), (hx.2 29 (by decide)).trans (hw.2 29 (by decide))⟩
  have hPx : KP x (t, s) := KP_up (KP_s h hN hc) h8 h9
  have w9 : w.2 9 = s.2 9 := hw.2 9 (by decide)
  have hAx : AH x (t, s) := KR_cg hA h.2.2.2.1 (hx.1 30 (by decide)) (hx.1 31 (by decide)) (fun y hy => by
    have := h.lt hy
    rw [w9]
    exact h9 y this.1 this.2.1) (fun k _ _ => ⟨by rw [hx.2 32 (by decide)], by rw [hx.2 33 (by decide)]⟩) (fun k _ _ => by rw [hx.2 34 (by decide)])
  refine endAct_ok (by rw [e24, hK.1]; have := hK.2.1; omega) (hF _ ?_ (enU_K hKx hAx hPx))
  refine (hS.up (fun _ q => by cases q) (fun _ q => by cases q)).us.tr ⟨fun y a1 a2 => ?_, fun f a1 a2 i _ => ?_⟩
  · show (enU x a).1 y = if y = 35 then chg (s.1 35) a else x.1 y
    by_cases e : y = 35
    · subst e
      rw [if_pos rfl, ← e35]
      rfl
    · rw [if_neg e]
      exact enU_e.1 y (by simp at a2 ⊢; omega)
  · rw [enU_e.2 f a2]
    rfl
/-- write() -/
def wriA (s : SM) (v : Int) : Int := if s.2 9 (s.1 16) = 1 ∨ s.2 9 (s.1 16) = 2 ∨ s.2 9 (s.1 16) = 3 then (if (s.2 9 (s.1 16) = 2 ∧ ¬ (0 ≤ v ∧ v ≤ 1)) ∨ (s.2 9 (s.1 16) = 3 ∧ ¬ (0 ≤ v ∧ v ≤ 25)) then -1 else s.2 10 (s.1 16)) else -4
def wriOk (s : SM) (v : Int) : Prop := (s.2 9 (s.1 16) = 1 ∨ s.2 9 (s.1 16) = 2 ∨ s.2 9 (s.1 16) = 3) ∧ (s.2 9 (s.1 16) = 2 → 0 ≤ v ∧ v ≤ 1) ∧ (s.2 9 (s.1 16) = 3 → 0 ≤ v ∧ v ≤ 25)
/-- a done act: what is kept, and the mark that something changed -/
def DONE (s : SM) (t : Term) (K : List Snap) (a : Int) (s' v : SM) : Prop := SX [24] [25, 26, 27, 28, 29] (us s' 35 (chg (s.1 35) a)) v ∧ KL v (push K (t, s))
theorem write_ok {v : Int} {F : Int → SM → Prop} {K : List Snap} (h : SHT s t) (hN : NB s) (hc : s.1 16 ∈ fl t) (hK : KL s K) (hD : 100 ≤ d) (H1 : ¬ wriOk s v → F (wriA s v) s) (H2 : wriOk s v → ∀ w, DONE s t K 0 (ua s 10 (s.1 16) v) w → F (wriA s v) w) : cm iv L h0 d 110 [vr 307, vi v] s (qi F) := by
  obtain ⟨d, rfl⟩ : ∃ k, d = k + 1 := ⟨d - 1, by omega⟩
  have hlt := h.lt hc
  have good : wriOk s v → cm iv L h0 d 99 [vr 307] s (qv fun s2 => (0 ≤ s2.1 16 ∧ s2.1 16 < 3004) ∧ cm iv L h0 d 100 [vr 307, vi 0] (ua s2 10 (s2.1 16) v) (qv fun s4 => F (s2.2 10 (s2.1 16)) s4)) := fun g => by
    refine beginAct_ok h (by omega) (fun w w1 w2 w3 => ?_)
    have e16 : w.1 16 = s.1 16 := w1.1 16 (by decide)
    have e10 : w.2 10 = s.2 10 := w1.2 10 (by decide)
    rw [e16, e10]
    refine ⟨by omega, act_end (s' := ua s 10 (s.1 16) v) h hN hc hK w1 w3 (eqx_ua eqx.rf (by decide)) ?_ ?_ ?_ (fun u u1 u2 => ?_)⟩
    · show s.1 8 ≤ w.1 8
      rw [w1.1 8 (by decide)]; exact Int.le_refl _
    · intro y _ _
      show (ua w 10 (s.1 16) v).2 9 y = _
      rw [ua_2, if_neg (by omega), w1.2 9 (by decide)]
    · exact (SX.eq w1 (by decide) (by decide)).ua
    · have := H2 g u ⟨u1, u2⟩
      obtain ⟨g1, g2, g3⟩ := g
      unfold wriA at this
      rw [if_pos g1, if_neg (by omega)] at this
      exact this
  have bad : ¬ wriOk s v → (s.2 9 (s.1 16) = 1 ∨ s.2 9 (s.1 16) = 2 ∨ s.2 9 (s.1 16) = 3) → F (-1) s := fun g q => by
    have := H1 g
    unfold wriOk at g
    unfold wriA at this
    rw [if_pos q, if_pos (by omega)] at this
    exact this
  have no : ¬ (s.2 9 (s.1 16) = 1 ∨ s.2 9 (s.1 16) = 2 ∨ s.2 9 (s.1 16) = 3) → F (-4) s := fun q => by
    have := H1 (fun g => q g.1)
    unfold wriA at this
    rw [if_neg q] at this
    exact this
  refine B110 ⟨by omega, ?_⟩
  repeat' first
    | exact good (by unfold wriOk; omega)
    | exact bad (by unfold wriOk; omega) (by omega)
    | exact no (by omega)
    | refine ⟨fun _ => ?_, fun _ => ?_⟩
    | (exfalso; omega)
/-- take() -/
noncomputable def tkT (s : SM) (t : Term) : Term := rpT (s.1 16) (.index (s.1 8).toNat) t
def tkU (s : SM) : SM := us (replU (bornU s 0 (-9) (-9)) (s.1 16) (s.1 8)) 16 (s.1 8)
def tkA (s : SM) : Int := if s.2 9 (s.1 16) = 0 then -4 else if s.1 8 = 3000 then -2 else s.1 8
def tkOk (s : SM) : Prop := s.2 9 (s.1 16) ≠ 0 ∧ s.1 8 ≠ 3000
theorem take_ok {F : Int → SM → Prop} {K : List Snap} (h : SHT s t) (hN : NB s) (hc : s.1 16 ∈ fl t) (hK : KL s K) (hD : 100 ≤ d) (H1 : ¬ tkOk s → F (tkA s) s) (H2 : tkOk s → ∀ w, DONE s t K 0 (tkU s) w → F (tkA s) w) : cm iv L h0 d 108 [vr 307] s (qi F) := by
  obtain ⟨d, rfl⟩ : ∃ k, d = k + 2 := ⟨d - 2, by omega⟩
  have hlt := h.lt hc
  have h8 := h.2.2.2.2.1
  have mc := AT_mem t h.1 _ hc
  have hup : s.2 12 (s.1 16) = -9 ∨ (0 ≤ s.2 12 (s.1 16) ∧ s.2 12 (s.1 16) < 3004) ∧ 0 ≤ s.2 13 (s.1 16) ∧ s.2 13 (s.1 16) < 3 := by
    by_cases e : s.1 16 = hd t
    · exact Or.inl (by rw [e]; exact h.2.2.2.2.2.2.1)
    · obtain ⟨u1, u2, u3⟩ := mc.2.2.2 e
      have := h.lt u1
      have := pO_in (s.2 9 (s.2 12 (s.1 16)))
      exact Or.inr ⟨by omega, by omega⟩
  unfold tkA tkOk at H1
  unfold tkA at H2
  refine B108 ⟨by omega, fun e => ⟨fun e8 => ?_, fun e8 => ?_⟩, fun e => ?_⟩
  · refine beginAct_ok h (by omega) (fun w w1 w2 w3 => ?_)
    have w8 : w.1 8 = s.1 8 := w1.1 8 (by decide)
    have hx := SX.eq (ey := []) (ef := []) w1 (by decide) (by decide)
    refine born_ok (by omega) ?_
    rw [w8]
    have g16 : (bornU w 0 (-9) (-9)).1 16 = s.1 16 := (bornU_e.1 16 (by decide)).trans (w1.1 16 (by decide))
    have g12 : (bornU w 0 (-9) (-9)).2 12 = s.2 12 := (bornU_e.2 12 (by decide)).trans (w1.2 12 (by decide))
    have g13 : (bornU w 0 (-9) (-9)).2 13 = s.2 13 := (bornU_e.2 13 (by decide)).trans (w1.2 13 (by decide))
    rw [g16]
    refine replace_ok (by omega) (by rw [g12, g13]; exact hup) (by omega) ?_
    refine act_end (s' := tkU s) h hN hc hK w1 w3 ?_ ?_ ?_ ?_ (fun u u1 u2 => ?_)
    · exact eqx_us ((bornU_e.up (fun y q => by simp at q ⊢; omega) (fun y q => by simp at q ⊢; omega)).tr (replU_e.up (fun y q => by simp at q ⊢; omega) (fun y q => by simp at q ⊢; omega))) (by decide)
    · show s.1 8 ≤ (replU (bornU w 0 (-9) (-9)) (s.1 16) (s.1 8)).1 8
      rw [replU_e.1 8 (by decide), bornU_8]; omega
    · intro y y0 y1
      show (replU (bornU w 0 (-9) (-9)) (s.1 16) (s.1 8)).2 9 y = _
      rw [replU_e.2 9 (by decide), (bornU_o y (by rw [w8]; exact y1)).1.1, w1.2 9 (by decide)]
    · exact (replU_x (bornU_x hx (by decide)) (by omega) (by decide)).us
    · have := H2 ⟨e, e8⟩ u ⟨u1, u2⟩
      rw [if_neg e, if_neg e8] at this
      exact this
  · have := H1 (fun q => q.2 e8)
    rw [if_neg e, if_pos e8] at this
    exact this
  · have := H1 (fun q => q.1 e)
    rw [if_pos e] at this
    exact this
end
