section
/-! move(); what rename() and move() leave. -/
def wth7 (s : SM) (y r : Int) : Bool := wth (s.2 12) 70 y r
/-- a NAME that would be bound otherwise where the hole h is -/
def mvb (s : SM) (h y : Int) : Bool := decide (s.2 9 y = 3) && ((decide (bds s y (s.2 10 y) = -9) || !(wth7 s (bds s y (s.2 10 y)) (s.1 16))) && decide (bds s h (s.2 10 y) ≠ bds s y (s.2 10 y)))
def mvU (s : SM) (h : Int) : SM := replU (replU (bornU s 0 (-9) (-9)) (s.1 16) (s.1 8)) h (s.1 16)
noncomputable def mvT (s : SM) (t : Term) (h : Int) : Term := rpT h (sq (s.1 16) t) (rpT (s.1 16) (.index (s.1 8).toNat) t)
def mvSt (s : SM) (h : Int) : Prop := s.2 9 h ≠ 0 ∨ h = s.1 16 ∨ wth7 s h (s.1 16) = true
def mvOk (s : SM) (t : Term) (h : Int) : Prop := h ∈ fl t ∧ ¬ mvSt s h ∧ s.1 8 ≠ 3000 ∧ (fl (sq (s.1 16) t)).any (mvb s h) = false
theorem wth_up {up : Int → Int} : ∀ (n m : Nat) (b r : Int), n ≤ m → wth up n b r = true → wth up m b r = true := by
  intro n
  induction n with
  | zero => intro m b r _ h; cases h
  | succ n ih =>
    intro m b r hm h
    obtain ⟨m, rfl⟩ : ∃ k, m = k + 1 := ⟨m - 1, by omega⟩
    unfold wth at h ⊢
    by_cases e : b = r
    · rw [if_pos e]
    · rw [if_neg e] at h ⊢
      by_cases e2 : up b = -9
      · rw [if_pos e2] at h; cases h
      · rw [if_neg e2] at h ⊢
        exact ih m _ r (by omega) h
theorem wth_tr {up : Int → Int} : ∀ (n m : Nat) (b a r : Int), wth up n b a = true → wth up m a r = true → wth up (n + m) b r = true := by
  intro n
  induction n with
  | zero => intro m b a r h; cases h
  | succ n ih =>
    intro m b a r h h2
    unfold wth at h
    by_cases e : b = a
    · subst e
      exact wth_up m _ _ _ (by omega) h2
    · rw [if_neg e] at h
      by_cases e2 : up b = -9
      · rw [if_pos e2] at h; cases h
      · rw [if_neg e2] at h
        have := ih m _ a r h h2
        rw [show n + 1 + m = (n + m) + 1 by omega]
        unfold wth
        by_cases e3 : b = r
        · rw [if_pos e3]
        · rw [if_neg e3, if_neg e2]
          exact this
theorem wth_sub {so pa up pl : Int → Int} {B : Int} : ∀ (u : Term), AT so pa up pl B u → ∀ y, y ∈ fl u → wth up (2 * dpt u) y (hd u) = true := by
  intro u
  induction u with
  | index n =>
    intro _ y hy
    rw [List.mem_singleton.mp hy]
    show wth up 2 (n : Int) (n : Int) = true
    unfold wth
    rw [if_pos rfl]
  | add t x ih ihx =>
    intro h y hy
    obtain ⟨h1, h2, h3, h4, h5, h6, h7⟩ := h
    have hdp : dpt (Term.add t x) = max (dpt t) (dpt x + 1) := rfl
    have hht : 0 ≤ hd t := ((AT_mem t h1 _ (hd_mem t h1)).1).1
    rcases List.mem_append.mp hy with hy | hy
    · exact wth_up _ _ _ _ (by omega) (ih h1 y hy)
    · have a := ihx h2 y hy
      have b : wth up 2 (hd x) (hd t) = true := by
        unfold wth
        by_cases e : hd x = hd t
        · rw [if_pos e]
        · rw [if_neg e, h6, if_neg (by omega)]
          unfold wth
          rw [if_pos rfl]
      exact wth_up _ _ _ _ (by omega) (wth_tr _ 2 _ _ _ a b)
  | _ => intro h; exact h.elim
theorem wth_70 {s : SM} {t : Term} (h : SHT s t) {y r : Int} (hy : y ∈ fl t) {n : Nat} (hw : wth (s.2 12) n y r = true) : wth7 s y r = true := by
  have hD := DP_tree h y hy
  have h1 := wth_up n (max n 61) y r (by omega) hw
  rw [wth_f 61 (max n 61) y r (by omega) hD] at h1
  exact wth_up 61 70 y r (by decide) h1
theorem sq_wth {s : SM} {t : Term} (h : SHT s t) {c y : Int} (hc : c ∈ fl t) (hy : y ∈ fl (sq c t)) : wth7 s y c = true := by
  obtain ⟨a1, a2, a3, a4, a5, a6, a7⟩ := sq_ok h.1 h.2.1 h.2.2.1 hc
  have := wth_sub _ a1 y hy
  rw [a3] at this
  exact wth_70 h (a4 y hy) this
noncomputable def mvA (s : SM) (t : Term) (h : Int) : Int := if h ∈ fl t then (if s.2 9 h ≠ 0 ∨ h = s.1 16 ∨ wth7 s h (s.1 16) = true then -4 else if s.1 8 = 3000 then -2 else if (fl (sq (s.1 16) t)).any (mvb s h) = true then -6 else s.1 8) else -1
section
variable {iv : List (Int × Int)} {L : Nat} {h0 : MH} {s : SM} {t : Term} {d : Nat}
theorem move_ok {g : Int} {F : Int → SM → Prop} {K : List Snap} (h : SHT s t) (hN : NB s) (hc : s.1 16 ∈ fl t) (hK : KL s K) (hD : 100 ≤ d) (H1 : ∀ w, ¬ mvOk s t g → SX [] [] s w → F (mvA s t g) w) (H2 : mvOk s t g → ∀ w, DONE s t K 0 (mvU s g) w → F (mvA s t g) w) : cm iv L h0 d 112 [vr 307, vi g] s (qi F) := by
  obtain ⟨d, rfl⟩ : ∃ k, d = k + 2 := ⟨d - 2, by omega⟩
  have hct := h.lt hc
  have h8 := h.2.2.2.2.1
  have hDP := fun x hx => DP_up 61 70 _ (by decide) (DP_tree h x hx)
  unfold mvA at H1 H2
  refine B112 (isThere_ok h (by omega) (fun w w1 w2 => ⟨fun e => ?_, fun e => ?_⟩))
  · have hg : g ∈ fl t := Classical.byContradiction fun q => by rw [if_neg q] at e; exact e rfl
    have hgl := h.lt hg
    have w9 : w.2 9 = s.2 9 := w1.2 9 (by decide)
    have w12 : w.2 12 = s.2 12 := w1.2 12 (by decide)
    have w16 : w.1 16 = s.1 16 := w1.1 16 (by decide)
    have st : (s.2 9 g ≠ 0 ∨ g = s.1 16 ∨ wth7 s g (s.1 16) = true) → F (-4) w := fun q => by
      have := H1 w (fun p => p.2.1 q) (SX_lay w1)
      rw [if_pos hg, if_pos q] at this
      exact this
    rw [w9, w16]
    refine ⟨by omega, fun e2 => st (Or.inl e2), fun e2 => ⟨fun e3 => st (Or.inr (Or.inl e3)), fun e3 => isWithin_ok (n := 70) (by omega) (by omega) (by rw [w12]; exact hDP g hg) ?_⟩⟩
    rw [w12]
    have bb : ∀ b' : Bool, ((if b' then (1 : Int) else 0) ≠ 0 → b' = true) ∧ ((if b' then (1 : Int) else 0) = 0 → b' = false) := fun b' => by cases b' <;> simp
    refine ⟨fun e4 => ?_, fun e4 => st (Or.inr (Or.inr ((bb _).1 e4)))⟩
    have e4 : wth7 s g (s.1 16) = false := (bb _).2 e4
    have nst : ¬ (s.2 9 g ≠ 0 ∨ g = s.1 16 ∨ wth7 s g (s.1 16) = true) := fun q => by
      rcases q with q | q | q
      · exact q e2
      · exact e3 q
      · rw [e4] at q; cases q
    rw [w1.1 8 (by decide), w16]
    refine ⟨fun e5 => ?_, fun e5 => ?_⟩
    · refine sizeOf_ok (h.x (SX_lay w1) (by decide) (by decide)) hc (by omega) (fun x x1 x2 => ?_)
      have x1 : eqx [18] [17] s x := w1.tr x1
      have sx := SX_lay x1
      have hTx : SHT x t := h.x sx (by decide) (by decide)
      have x9 : x.2 9 = s.2 9 := x1.2 9 (by decide)
      have x10 : x.2 10 = s.2 10 := x1.2 10 (by decide)
      have x12 : x.2 12 = s.2 12 := x1.2 12 (by decide)
      have x13 : x.2 13 = s.2 13 := x1.2 13 (by decide)
      have x14 : x.2 14 = s.2 14 := x1.2 14 (by decide)
      have x16 : x.1 16 = s.1 16 := x1.1 16 (by decide)
      obtain ⟨a1, a2, a3, a4, a5, a6, a7⟩ := sq_ok h.1 h.2.1 h.2.2.1 hc
      have hll := h.2.2.2.1
      -- the act
      have act : (fl (sq (s.1 16) t)).any (mvb s g) = false → cm iv L h0 (d + 1) 99 [vr 307] x (qv fun s1 => cm iv L h0 (d + 1) 74 [vr 307, vi 0, vi (-9), vi (-9)] s1 (qi fun r3 s2 => cm iv L h0 (d + 1) 77 [vr 307, vi (s1.1 16), vi r3] s2 (qv fun s4 => cm iv L h0 (d + 1) 77 [vr 307, vi g, vi (s1.1 16)] s4 (qv fun s5 => cm iv L h0 (d + 1) 100 [vr 307, vi 0] s5 (qv fun s6 => F r3 s6))))) := fun hany => by
        refine beginAct_ok hTx (by omega) (fun y y1 y2 y3 => ?_)
        have y1 : eqx [18, 30, 31] [17, 32, 33, 34] s y := (x1.up (fun y q => by simp at q ⊢; omega) (fun y q => by simp at q ⊢; omega)).tr y1
        have y3 : AH y (t, s) := by
          obtain ⟨b1, b2, b3⟩ := y3
          refine ⟨b1, b2.trans x16, fun k z hk => ?_⟩
          have := b3 k z hk
          rw [show ((t, x) : Snap).2.2 10 z = s.2 10 z from by show x.2 10 z = _; rw [x10], show ((t, x) : Snap).2.2 14 = s.2 14 from x14] at this
          exact this
        have y8 : y.1 8 = s.1 8 := y1.1 8 (by decide)
        have y16 : y.1 16 = s.1 16 := y1.1 16 (by decide)
        have hx := SX.eq (ey := []) (ef := []) y1 (by decide) (by decide)
        rw [y16]
        refine born_ok (by omega) ?_
        rw [y8]
        have g12 : (bornU y 0 (-9) (-9)).2 12 = s.2 12 := (bornU_e.2 12 (by decide)).trans (y1.2 12 (by decide))
        have g13 : (bornU y 0 (-9) (-9)).2 13 = s.2 13 := (bornU_e.2 13 (by decide)).trans (y1.2 13 (by decide))
        obtain ⟨q1, q2, q3, q4, q5⟩ := replU_in (s1 := bornU y 0 (-9) (-9)) (b := s.1 8) h hc (by rw [g12]) (by rw [g13])
        have z12 : (replU (bornU y 0 (-9) (-9)) (s.1 16) (s.1 8)).2 12 g = s.2 12 g ∧ (replU (bornU y 0 (-9) (-9)) (s.1 16) (s.1 8)).2 13 g = s.2 13 g := by
          have := q4 g (by omega)
          rw [this.1, this.2, g12, g13]
          exact ⟨rfl, rfl⟩
        refine replace_ok (by omega) (by rw [g12, g13]; exact up_in h hc) (by omega) (replace_ok (by omega) (by rw [z12.1, z12.2]; exact up_in h hg) (by omega) ?_)
        refine act_end (s' := mvU s g) h hN hc hK y1 y3 ?_ ?_ ?_ ?_ (fun u u1 u2 => ?_)
        · exact ((bornU_e.up (fun y q => by simp at q ⊢; omega) (fun y q => by simp at q ⊢; omega)).tr (replU_e.up (fun y q => by simp at q ⊢; omega) (fun y q => by simp at q ⊢; omega))).tr (replU_e.up (fun y q => by simp at q ⊢; omega) (fun y q => by simp at q ⊢; omega))
        · rw [replU_e.1 8 (by decide), replU_e.1 8 (by decide), bornU_8]; omega
        · intro z z0 z1
          rw [replU_e.2 9 (by decide), replU_e.2 9 (by decide), (bornU_o z (by rw [y8]; exact z1)).1.1, y1.2 9 (by decide)]
        · exact replU_x (replU_x (bornU_x hx (by decide)) (by omega) (by decide)) (by omega) (by decide)
        · have := H2 ⟨hg, nst, e5, hany⟩ u ⟨u1, u2⟩
          rw [if_pos hg, if_neg nst, if_neg e5, if_neg (by rw [hany]; decide)] at this
          exact this
      have cau : (fl (sq (s.1 16) t)).any (mvb s g) = true → F (-6) x := fun hany => by
        have := H1 x (fun p => by rw [p.2.2.2] at hany; cases hany) sx
        rw [if_pos hg, if_neg nst, if_neg e5, if_pos hany] at this
        exact this
      have key : ∀ (m p : List Int), fl (sq (s.1 16) t) = p ++ m → (fl (sq (s.1 16) t)).any (mvb s g) = m.any (mvb s g) → wm iv L h0 (d + 1 + 1) 112 66 [lr 307, li g, li (fl (sq (s.1 16) t)).length, li p.length] [] x (qi F) := by
        intro m
        induction m with
        | nil =>
          intro p e hb
          refine B112_66 ⟨fun _ => act (by rw [hb]; rfl), fun q => ?_⟩
          rw [e] at q
          simp at q
        | cons y m ih =>
          intro p e hb
          obtain ⟨c1, c2⟩ := LR_cons x2 e
          have hy : y ∈ fl t := a4 y (by rw [e]; simp)
          have hyl := h.lt hy
          have e' := e
          rw [app1] at e'
          have e1 : ((p ++ [y]).length : Int) = p.length + 1 := by simp
          have hpl : (p.length : Int) < (fl (sq (s.1 16) t)).length := by rw [e]; simp; omega
          have nx : mvb s g y = false → (-2147483648 ≤ (p.length : Int) + 1 ∧ (p.length : Int) + 1 ≤ 2147483647) ∧ wm iv L h0 (d + 1 + 1) 112 66 [lr 307, li g, li (fl (sq (s.1 16) t)).length, li (p.length + 1)] [] x (qi F) := fun hz => by
            have := ih (p ++ [y]) e' (by rw [hb]; simp [hz])
            rw [e1] at this
            exact ⟨by omega, this⟩
          have ca : mvb s g y = true → F (-6) x := fun hz => cau (by rw [hb]; simp [hz])
          have dy : DP (x.2 12) 70 y := by rw [x12]; exact hDP y hy
          have dg : DP (x.2 12) 70 g := by rw [x12]; exact hDP g hg
          refine B112_66 ⟨fun q => by omega, fun _ => ?_⟩
          rw [c1, x9, x10]
          refine ⟨by omega, by omega, fun q => nx (by unfold mvb; rw [decide_eq_false q]; rfl), fun q => binderOf_ok (n := 70) (by omega) dy ?_⟩
          rw [x9, x10, x12, x13, x16, c1]
          have e70 : bnd (s.2 9) (s.2 10) (s.2 12) (s.2 13) 70 y (s.2 10 y) = bds s y (s.2 10 y) := rfl
          rw [e70]
          have lastq : ∀ u, u = bds s y (s.2 10 y) → (u = -9 ∨ wth7 s u (s.1 16) = false) → cm iv L h0 (d + 1) 85 [vr 307, vi g, vi (s.2 10 y)] x (qi fun r14 s13 => ((r14 = u → (-2147483648 ≤ (p.length : Int) + 1 ∧ (p.length : Int) + 1 ≤ 2147483647) ∧ wm iv L h0 (d + 1 + 1) 112 66 [lr 307, li g, li (fl (sq (s.1 16) t)).length, li (p.length + 1)] [] s13 (qi F)) ∧ (r14 ≠ u → F (-6) s13))) := fun u hu hout => by
            refine binderOf_ok (n := 70) (by omega) dg ?_
            rw [x9, x10, x12, x13]
            have e71 : bnd (s.2 9) (s.2 10) (s.2 12) (s.2 13) 70 g (s.2 10 y) = bds s g (s.2 10 y) := rfl
            rw [e71]
            have eo : (decide (u = -9) || !(wth7 s u (s.1 16))) = true := by
              rcases hout with q | q
              · rw [decide_eq_true q]; rfl
              · rw [q]; simp
            refine ⟨fun q2 => nx ?_, fun q2 => ca ?_⟩
            · unfold mvb
              rw [← hu, decide_eq_false (p := bds s g (s.2 10 y) ≠ u) (fun c => c q2)]
              simp
            · unfold mvb
              rw [← hu, eo, decide_eq_true q, decide_eq_true q2]
              rfl
          refine ⟨fun e6 => ⟨by omega, lastq _ rfl (Or.inl e6)⟩, fun e6 => ?_⟩
          obtain ⟨b1, b2⟩ := (bnd_rng (so := s.2 9) (nu := s.2 10) (pl := s.2 13) 70 y (s.2 10 y) (hDP y hy)).resolve_left e6
          refine isWithin_ok (n := 70) b1 (by omega) (by rw [x12]; exact b2) ?_
          rw [x12, c1, x10]
          refine ⟨fun q2 => nx ?_, fun q2 => ⟨by omega, lastq _ rfl (Or.inr ((bb _).2 q2))⟩⟩
          have q2 : wth7 s (bds s y (s.2 10 y)) (s.1 16) = true := (bb _).1 q2
          unfold mvb
          rw [q2, decide_eq_false e6]
          simp
      exact key _ [] rfl rfl
    · have := H1 w (fun p => p.2.2.1 e5) (SX_lay w1)
      rw [if_pos hg, if_neg nst, if_pos e5] at this
      exact this
  · have hg : g ∉ fl t := fun q => by rw [if_pos q] at e; cases e
    have := H1 w (fun p => hg p.1) (SX_lay w1)
    rw [if_neg hg] at this
    exact this
theorem rnU_o {v : Int} {f : Nat} (hf : f ≠ 10) : (rnU s t v).2 f = s.2 f := by
  funext y
  show (if f = 10 ∧ (y = s.1 16 ∨ (y ∈ fl t ∧ isB s y = true)) then v else s.2 f y) = s.2 f y
  exact if_neg (fun q => hf q.1)
theorem ren_aft {v : Int} (h : AFT s t) (hg : renOk s t v) : AFT (rnU s t v) t := by
  obtain ⟨h1, h2, h3⟩ := h
  refine ⟨?_, fun x x0 x1 => ?_, h3⟩
  · have e : ∀ f, f ≠ 10 → (rnU s t v).2 f = s.2 f := fun f hf => rnU_o hf
    unfold SHT ATs at h1 ⊢
    rw [e 9 (by decide), e 12 (by decide), e 13 (by decide), e 14 (by decide)]
    exact h1
  · have hn := h2 x x0 x1
    have e9 : (rnU s t v).2 9 = s.2 9 := rnU_o (by decide)
    have e11 : (rnU s t v).2 11 = s.2 11 := rnU_o (by decide)
    rw [e9, e11]
    by_cases e : x = s.1 16 ∨ (x ∈ fl t ∧ isB s x = true)
    · rw [show (rnU s t v).2 10 x = v from if_pos ⟨rfl, e⟩]
      have h2' : s.2 9 x ≠ 2 := by
        rcases e with e | e
        · rw [e]; have := hg.2.1; omega
        · have := e.2
          unfold isB at this
          simp at this
          omega
      exact ⟨hn.1, fun _ => by have := hg.1; omega, fun q => absurd q h2', hn.2.2.2⟩
    · rw [show (rnU s t v).2 10 x = s.2 10 x from if_neg (fun q => e q.2)]
      exact hn
theorem sq_leaf (h : SHT s t) {c : Int} (hc : c ∈ fl t) (h9 : s.2 9 c = 0) : fl (sq c t) = [c] := by
  obtain ⟨a1, a2, a3, a4, a5, a6, a7⟩ := sq_ok h.1 h.2.1 h.2.2.1 hc
  unfold full at a2
  rw [a3, h9] at a2
  obtain ⟨b, eb⟩ := AT_0 a1 a2
  rw [eb] at a3 ⊢
  have a3 : (b : Int) = c := a3
  show [(b : Int)] = [c]
  rw [a3]
theorem mv_aft {g : Int} (h : AFT s t) (hg : mvOk s t g) : AFT (mvU s g) (mvT s t g) := by
  obtain ⟨h1, h2, h3⟩ := h
  obtain ⟨g1, g2, g3, g4⟩ := hg
  unfold mvSt at g2
  have hB := h1.2.2.2.2.1
  have hll := h1.2.2.2.1
  have h8 : s.1 8 < 3000 := by omega
  have e8 : (((s.1 8).toNat : Nat) : Int) = s.1 8 := by omega
  have hgl := h1.lt g1
  have hcl := h1.lt h3
  have g9 : s.2 9 g = 0 := Classical.byContradiction fun q => g2 (Or.inl q)
  -- the sheet behind the first half
  have tk : AFT (tkU s) (tkT s t) ∨ s.2 9 (s.1 16) = 0 := by
    by_cases q : s.2 9 (s.1 16) = 0
    · exact Or.inr q
    · exact Or.inl (take_aft ⟨h1, h2, h3⟩ ⟨q, g3⟩)
  obtain ⟨n1, n2, n3, n4, n5, n6, n7⟩ := new_in (so := 0) (v := -9) (k := -9) h1 h3 (by decide)
  have S1 : SHT (replU (bornU s 0 (-9) (-9)) (s.1 16) (s.1 8)) (rpT (s.1 16) (.index (s.1 8).toNat) t) := by
    have hl := len_rp h1 h3 (.index (s.1 8).toNat)
    have hp := sq_pos h1 h3
    have f1 : (fl (Term.index (s.1 8).toNat)).length = 1 := rfl
    refine SHT_rp h1 h3 ⟨by omega, by omega⟩ n1 ?_ ?_ (fun y hy hyt => ?_) (fun y hy _ => ?_) ?_ ?_ ?_ (by omega)
    · show (0 : Int) = pO ((replU (bornU s 0 (-9) (-9)) (s.1 16) (s.1 8)).2 9 (((s.1 8).toNat : Nat) : Int))
      rw [e8, n3.1]; rfl
    · simp [fl]
    · have := List.mem_singleton.mp hy
      have := h1.lt hyt
      omega
    · have hy2 := h1.lt hy
      obtain ⟨a1, a2, a3⟩ := n4 y hy2.2.1
      exact ⟨a1.1, a2.1, a2.2, fun i _ _ hi => a3 i hi⟩
    · show (replU _ _ _).2 12 (((s.1 8).toNat : Nat) : Int) = _ ∧ (replU _ _ _).2 13 (((s.1 8).toNat : Nat) : Int) = _
      rw [e8]; exact n5
    · intro q
      show (replU _ _ _).2 14 _ = (((s.1 8).toNat : Nat) : Int)
      rw [e8]; exact n6 q
    · show (replU _ _ _).1 15 = if _ then (((s.1 8).toNat : Nat) : Int) else _
      rw [e8]; exact n7
  obtain ⟨a1, a2, a3, a4, a5, a6, a7⟩ := sq_ok h1.1 h1.2.1 h1.2.2.1 h3
  obtain ⟨a, z, e1, e2, e3⟩ := rpT_fl h1.1 h1.2.2.1 h3
  have e2' := e2 (.index (s.1 8).toNat)
  have gn : g ∉ fl (sq (s.1 16) t) := fun q => g2 (Or.inr (Or.inr (sq_wth h1 h3 q)))
  have f1 : fl (Term.index (s.1 8).toNat) = [s.1 8] := by show [(((s.1 8).toNat : Nat) : Int)] = _; rw [e8]
  have gin : g ∈ fl (rpT (s.1 16) (.index (s.1 8).toNat) t) := by
    rw [e2']
    rw [e1] at g1
    simp at g1 ⊢
    rcases g1 with q | q | q
    · exact Or.inl q
    · exact absurd q gn
    · exact Or.inr (Or.inr q)
  have dis : ∀ y, y ∈ fl (sq (s.1 16) t) → y ∉ fl (rpT (s.1 16) (.index (s.1 8).toNat) t) := fun y hy q => by
    rw [e2', f1] at q
    have hnd := h1.2.2.1
    rw [e1] at hnd
    obtain ⟨m1, m2, m3⟩ := List.nodup_append.mp hnd
    obtain ⟨m4, m5, m6⟩ := List.nodup_append.mp m2
    rcases List.mem_append.mp q with q | q
    · exact m3 y q y (List.mem_append_left _ hy) rfl
    · rcases List.mem_append.mp q with q | q
      · have := List.mem_singleton.mp q
        have := h1.lt (a4 y hy)
        omega
      · exact m6 y hy y q rfl
  have cm0 : s.1 16 ∈ fl (sq (s.1 16) t) := by have := hd_mem _ a1; rw [a3] at this; exact this
  have cn := dis _ cm0
  have gs := n4 g hgl.2.1
  have S9 : (replU (bornU s 0 (-9) (-9)) (s.1 16) (s.1 8)).2 9 g = 0 := gs.1.1.trans g9
  have lf := sq_leaf S1 gin S9
  have hl1 := len_rp h1 h3 (.index (s.1 8).toNat)
  have hl2 := len_rp S1 gin (sq (s.1 16) t)
  rw [lf] at hl2
  rw [f1] at hl1
  simp only [List.length_cons, List.length_nil] at hl1 hl2
  obtain ⟨r1, r2, r3, r4, r5⟩ := replU_in (b := s.1 16) S1 gin rfl rfl
  have E9 : (mvU s g).2 9 = (replU (bornU s 0 (-9) (-9)) (s.1 16) (s.1 8)).2 9 := replU_e.2 9 (by decide)
  have E10 : (mvU s g).2 10 = (replU (bornU s 0 (-9) (-9)) (s.1 16) (s.1 8)).2 10 := replU_e.2 10 (by decide)
  have E11 : (mvU s g).2 11 = (replU (bornU s 0 (-9) (-9)) (s.1 16) (s.1 8)).2 11 := replU_e.2 11 (by decide)
  have E8 : (mvU s g).1 8 = s.1 8 + 1 := (replU_e.1 8 (by decide)).trans n2
  have hup1 := up_in S1 gin
  have hupn : (replU (bornU s 0 (-9) (-9)) (s.1 16) (s.1 8)).2 12 g ∉ fl (sq (s.1 16) t) := fun q => by
    have hq := a4 _ q
    have hql := h1.lt hq
    by_cases e : g = hd (rpT (s.1 16) (.index (s.1 8).toNat) t)
    · have := S1.2.2.2.2.2.2.1
      rw [← e] at this
      omega
    · have := ((AT_mem _ S1.1 g gin).2.2.2 e).1
      exact dis _ q this
  refine ⟨SHT_rp (w := mvU s g) S1 gin ⟨by rw [E8, n2]; exact Int.le_refl _, by rw [E8]; omega⟩ ?_ ?_ a5 (fun y hy hyt => absurd hyt (dis y hy)) (fun y hy hyn => ?_) ?_ ?_ ?_ (by omega), NB_new h2 ?_ (fun y y0 y1 => ?_) (fun y y0 y1 => ?_), ?_⟩
  · refine AT_cg (by rw [E8]; omega) _ a1 a5 (fun x hx => ?_) (fun x hx hne => ?_)
    · have hxl := h1.lt (a4 x hx)
      obtain ⟨b1, b2, b3⟩ := n4 x hxl.2.1
      refine ⟨by rw [E9]; exact b1.1, fun j j0 j1 _ => ?_⟩
      have hpo := pO_in (s.2 9 x)
      have k1 : 3 * x + j ≠ 3 * s.2 12 (s.1 16) + s.2 13 (s.1 16) := fun q => by
        rcases up_in h1 h3 with e | e
        · have e13 : s.1 16 = hd t := Classical.byContradiction fun q => by
            have := h1.lt ((AT_mem t h1.1 _ h3).2.2.2 q).1
            omega
          have := h1.2.2.2.2.2.2.2
          rw [← e13] at this
          omega
        · have : x = s.2 12 (s.1 16) := by omega
          exact sq_up h1 h3 (by rw [← this]; exact hx)
      have k2 : 3 * x + j ≠ 3 * (replU (bornU s 0 (-9) (-9)) (s.1 16) (s.1 8)).2 12 g + (replU (bornU s 0 (-9) (-9)) (s.1 16) (s.1 8)).2 13 g := fun q => by
        rcases hup1 with e | e
        · have e13 : g = hd (rpT (s.1 16) (.index (s.1 8).toNat) t) := Classical.byContradiction fun q => by
            have := S1.lt ((AT_mem _ S1.1 _ gin).2.2.2 q).1
            omega
          have := S1.2.2.2.2.2.2.2
          rw [← e13] at this
          omega
        · have : x = (replU (bornU s 0 (-9) (-9)) (s.1 16) (s.1 8)).2 12 g := by omega
          exact hupn (by rw [← this]; exact hx)
      exact (r5 _ k2).trans (b3 j k1)
    · rw [a3] at hne
      have hxl := h1.lt (a4 x hx)
      obtain ⟨b1, b2, b3⟩ := n4 x hxl.2.1
      have := r4 x hne
      exact ⟨this.1.trans b2.1, this.2.trans b2.2⟩
  · unfold full at a2 ⊢
    rw [a2, a3, E9, (n4 _ hcl.2.1).1.1]
  · have hne : y ≠ s.1 16 := fun q => cn (q ▸ hy)
    have := r4 y hne
    exact ⟨by rw [E9], this.1, this.2, fun i i0 i3 hi => r5 _ hi⟩
  · rw [a3]; exact r1
  · intro q
    rw [a3]; exact r2 q
  · rw [a3]; exact r3
  · exact (replU_e.1 2 (by decide)).trans ((replU_e.1 2 (by decide)).trans (bornU_e.1 2 (by decide)))
  · rw [E9, E10, E11]; exact (n4 y y1).1
  · rw [E8] at y1
    obtain rfl : y = s.1 8 := by omega
    exact nodOk_hole (by rw [E9]; exact n3.1)
  · have e16 : (mvU s g).1 16 = s.1 16 := (replU_e.1 16 (by decide)).trans ((replU_e.1 16 (by decide)).trans (bornU_e.1 16 (by decide)))
    rw [e16]
    exact hl2.2 _ cm0
end
end
section
/-! The shelf: shelve(), fill(). -/
/-- what a node bears is right, kinds below n -/
def bearOk (n so nu td : Int) : Prop := (0 ≤ so ∧ so < 16) ∧ ((so = 3 ∨ so = 8 ∨ so = 10) → 0 ≤ nu ∧ nu < 26) ∧ (so = 2 → nu = 0 ∨ nu = 1) ∧ ((so = 8 ∨ so = 15) → 0 ≤ td ∧ td < n) ∧ nvl so nu = nu ∧ kvl so td = td
/-- numbers, kinds are there just where a sort bears them -/
def NV (s : SM) : Prop := ∀ x, 0 ≤ x → x < s.1 8 → nvl (s.2 9 x) (s.2 10 x) = s.2 10 x ∧ kvl (s.2 9 x) (s.2 11 x) = s.2 11 x
theorem NV.x {ey ef : List Nat} {s w : SM} (h : NV s) (hx : SX ey ef s w) (h8 : s.1 8 ≤ 3000) (hy : 8 ∉ ey) (hf : 9 ∉ ef ∧ 10 ∉ ef ∧ 11 ∉ ef) : NV w := fun x h0 h1 => by
  rw [hx.1 8 (by decide) hy] at h1
  have hi : ∀ f, (f = 9 ∨ f = 10 ∨ f = 11) → ¬ scI f x := fun f q => by unfold scI; omega
  rw [hx.2 9 (by decide) hf.1 x (hi 9 (by decide)), hx.2 10 (by decide) hf.2.1 x (hi 10 (by decide)), hx.2 11 (by decide) hf.2.2 x (hi 11 (by decide))]
  exact h x h0 h1
/-- a place of the shelf has a tree as it was -/
def SE (s : SM) (p : Int) (e : Snap) : Prop := s.2 37 p = (fl e.1).length ∧ (AT (e.2.2 9) (e.2.2 14) (e.2.2 12) (e.2.2 13) (e.2.1 8) e.1 ∧ full (e.2.2 9) e.1 ∧ (fl e.1).Nodup ∧ (fl e.1).length ≤ 60) ∧ ∀ (k : Nat) (x : Int), (fl e.1)[k]? = some x → (s.2 38 (60 * p + k) = e.2.2 9 x ∧ s.2 39 (60 * p + k) = e.2.2 10 x ∧ s.2 40 (60 * p + k) = e.2.2 11 x) ∧ bearOk (s.1 2) (e.2.2 9 x) (e.2.2 10 x) (e.2.2 11 x)
def ShL (s : SM) (Sh : Int → Option Snap) : Prop := ∀ p, 0 ≤ p → p < 6 → (Sh p = none → s.2 37 p = 0) ∧ ∀ e, Sh p = some e → SE s p e
def shP (Sh : Int → Option Snap) (p : Int) (e : Snap) : Int → Option Snap := fun q => if q = p then some e else Sh q
theorem bearOk_up {n m so nu td : Int} (h : bearOk n so nu td) (hm : n ≤ m) : bearOk m so nu td := ⟨h.1, h.2.1, h.2.2.1, fun q => by have := h.2.2.2.1 q; omega, h.2.2.2.2⟩
theorem SE_up {s w : SM} {p : Int} {e : Snap} (h : SE s p e) (h2 : s.1 2 ≤ w.1 2) (hr : w.2 37 p = s.2 37 p) (hk : ∀ k : Nat, (k : Int) < s.2 37 p → w.2 38 (60 * p + k) = s.2 38 (60 * p + k) ∧ w.2 39 (60 * p + k) = s.2 39 (60 * p + k) ∧ w.2 40 (60 * p + k) = s.2 40 (60 * p + k)) : SE w p e := by
  obtain ⟨a1, a2, a3⟩ := h
  refine ⟨hr.trans a1, a2, fun k x hx => ?_⟩
  obtain ⟨⟨b1, b2, b3⟩, b4⟩ := a3 k x hx
  have := (List.getElem?_eq_some_iff.mp hx).1
  obtain ⟨c1, c2, c3⟩ := hk k (by omega)
  exact ⟨⟨c1.trans b1, c2.trans b2, c3.trans b3⟩, bearOk_up b4 h2⟩
theorem ShL.x {ey ef : List Nat} {s w : SM} {Sh : Int → Option Snap} (h : ShL s Sh) (hx : SX ey ef s w) (hy : 2 ∉ ey) (hf : 37 ∉ ef ∧ 38 ∉ ef ∧ 39 ∉ ef ∧ 40 ∉ ef) : ShL w Sh := fun p p0 p6 => by
  obtain ⟨h1, h2⟩ := h p p0 p6
  have e : ∀ f i, (f = 37 ∨ f = 38 ∨ f = 39 ∨ f = 40) → w.2 f i = s.2 f i := fun f i q => hx.2 f (by rcases q with rfl | rfl | rfl | rfl <;> decide) (by rcases q with rfl | rfl | rfl | rfl; exact hf.1; exact hf.2.1; exact hf.2.2.1; exact hf.2.2.2) i (by unfold scI; omega)
  refine ⟨fun q => by rw [e 37 p (by decide)]; exact h1 q, fun u hu => SE_up (h2 u hu) (by rw [hx.1 2 (by decide) hy]; exact Int.le_refl _) (e 37 p (by decide)) (fun k _ => ⟨e 38 _ (by decide), e 39 _ (by decide), e 40 _ (by decide)⟩)⟩
theorem ShL.many {s : SM} {Sh : Int → Option Snap} (h : ShL s Sh) : ∀ p, 0 ≤ p → p < 6 → 0 ≤ s.2 37 p ∧ s.2 37 p ≤ 60 := fun p p0 p6 => by
  obtain ⟨h1, h2⟩ := h p p0 p6
  cases e : Sh p with
  | none => rw [h1 e]; decide
  | some u =>
    obtain ⟨a1, a2, a3⟩ := h2 u e
    rw [a1]
    have := a2.2.2.2
    omega
/-- a tree with births of its own, from B on -/
def rlb : Term → Nat → Term
  | .add t x, B => .add (rlb t B) (rlb x (B + (fl t).length))
  | _, B => .index B
theorem rlb_fl {so pa up pl : Int → Int} {B0 : Int} : ∀ (t : Term) (B : Nat), AT so pa up pl B0 t → fl (rlb t B) = (List.range' B (fl t).length).map Int.ofNat ∧ hd (rlb t B) = B ∧ na (rlb t B) = na t := by
  intro t
  induction t with
  | index n => intro B _; exact ⟨rfl, rfl, rfl⟩
  | add t x ih ihx =>
    intro B h
    obtain ⟨h1, h2, -⟩ := h
    obtain ⟨a1, a2, a3⟩ := ih B h1
    obtain ⟨b1, b2, b3⟩ := ihx (B + (fl t).length) h2
    refine ⟨?_, a2, by show na (rlb t B) + 1 = na t + 1; rw [a3]⟩
    show fl (rlb t B) ++ fl (rlb x (B + (fl t).length)) = _
    rw [a1, b1, ← List.map_append, List.range'_append_1]
    show _ = (List.range' B (fl t ++ fl x).length).map Int.ofNat
    rw [List.length_append]
  | _ => intro B h; exact h.elim
theorem rlb_at {so pa up pl : Int → Int} {B0 : Int} {t : Term} {B : Nat} (h : AT so pa up pl B0 t) {y : Int} (hy : y ∈ fl (rlb t B)) : (B : Int) ≤ y ∧ y < B + (fl t).length := by
  rw [(rlb_fl t B h).1] at hy
  obtain ⟨z, h1, h2⟩ := List.mem_map.mp hy
  obtain ⟨h3, h4⟩ := List.mem_range'_1.mp h1
  rw [← h2]
  show (B : Int) ≤ (z : Int) ∧ (z : Int) < _
  omega
theorem rlb_nd {so pa up pl : Int → Int} {B0 : Int} {t : Term} {B : Nat} (h : AT so pa up pl B0 t) : (fl (rlb t B)).Nodup := by
  rw [(rlb_fl t B h).1, List.nodup_iff_pairwise_ne, List.pairwise_map]
  exact (List.nodup_iff_pairwise_ne.mp List.nodup_range').imp (fun q e => q (Int.ofNat.inj e))
/-- nodes born anew by what is on the shelf -/
def BF (z s w : SM) (t : Term) : Prop := w.1 8 = s.1 8 + (fl t).length ∧ w.1 41 = s.1 41 + (fl t).length ∧ ATs w (rlb t (s.1 8).toNat) ∧ OLD (fun y => y < s.1 8) s w ∧ eqx [8, 41] [9, 10, 11, 12, 13, 14] s w ∧ ∀ (k : Nat) (x : Int), (fl t)[k]? = some x → w.2 9 (s.1 8 + k) = z.2 9 x ∧ w.2 10 (s.1 8 + k) = z.2 10 x ∧ w.2 11 (s.1 8 + k) = z.2 11 x
/-- what the shelf has from here on -/
def BR (z s : SM) (p : Int) (t : Term) : Prop := ∀ (k : Nat) (x : Int), (fl t)[k]? = some x → (s.2 38 (60 * p + (s.1 41 + k)) = z.2 9 x ∧ s.2 39 (60 * p + (s.1 41 + k)) = z.2 10 x ∧ s.2 40 (60 * p + (s.1 41 + k)) = z.2 11 x) ∧ (nvl (z.2 9 x) (z.2 10 x) = z.2 10 x ∧ kvl (z.2 9 x) (z.2 11 x) = z.2 11 x)
section
variable {iv : List (Int × Int)} {L : Nat} {h0 : MH} {s : SM} {t : Term} {d : Nat}
theorem bf_part {z : SM} {p : Int} (hp : 0 ≤ p ∧ p < 6) : ∀ (t : Term), AT (z.2 9) (z.2 14) (z.2 12) (z.2 13) (z.1 8) t → ∀ (D : Nat) (s : SM) (F : Int → SM → Prop), BR z s p t → dpt t ≤ D → 0 ≤ s.1 8 → s.1 8 + (fl t).length ≤ 3000 → 0 ≤ s.1 41 → s.1 41 + (fl t).length ≤ 60 →
    (∀ w, BF z s w t → wm iv L h0 (D + 1) 114 46 [lr 307, li p, ln, li (s.1 8), li (na t)] [] w (qi F)) → cm iv L h0 (D + 1) 114 [vr 307, vi p] s (qi F) := by
  intro t
  induction t with
  | index n =>
    intro h D s F hR hD h8 hl h41 hl2 hw
    obtain ⟨D, rfl⟩ : ∃ k, D = k + 1 := ⟨D - 1, by have : dpt (Term.index n) = 1 := rfl; omega⟩
    have h1 : (fl (Term.index n)).length = 1 := rfl
    obtain ⟨⟨r1, r2, r3⟩, r4, r5⟩ := hR 0 n rfl
    rw [show 60 * p + (s.1 41 + ((0 : Nat) : Int)) = 60 * p + s.1 41 by omega] at r1 r2 r3
    refine B114 ⟨by omega, by omega, by omega, by omega, born_ok (s := us s 41 (s.1 41 + 1)) ⟨h8, by show s.1 8 < 3004; omega⟩ ?_⟩
    have g8 : (us s 41 (s.1 41 + 1)).1 8 = s.1 8 := rfl
    rw [r1, r2, r3]
    refine hw _ ⟨?_, ?_, ⟨?_, ?_⟩, bornU_o, ?_, fun k x hk => ?_⟩
    · rw [h1]; rfl
    · rw [h1]; rfl
    · show (((s.1 8).toNat : Nat) : Int) < s.1 8 + 1; omega
    · have := bornU_at (s := us s 41 (s.1 41 + 1)) (so := z.2 9 n) (v := z.2 10 n) (k := z.2 11 n)
      rw [show (((s.1 8).toNat : Nat) : Int) = (us s 41 (s.1 41 + 1)).1 8 from by rw [g8]; omega, this.1]
      exact h.2
    · exact (eqx_us (s := s) (t := s) eqx.rf (y := 41) (z := s.1 41 + 1) (by decide)).tr (bornU_e.up (fun y q => by simp at q ⊢; omega) (fun y q => by simp at q ⊢; omega))
    · have hk : [(n : Int)][k]? = some x := hk
      cases k with
      | zero =>
        simp at hk
        subst hk
        have := bornU_at (s := us s 41 (s.1 41 + 1)) (so := z.2 9 n) (v := z.2 10 n) (k := z.2 11 n)
        rw [g8, r4, r5] at this
        rw [show s.1 8 + ((0 : Nat) : Int) = s.1 8 by omega]
        exact this
      | succ k => simp at hk
  | add t x ih ihx =>
    intro h D s F hR hD h8 hl h41 hl2 hw
    obtain ⟨h1, h2, h3, h4, h5, h6, h7⟩ := h
    have hlen : (fl (Term.add t x)).length = (fl t).length + (fl x).length := by show (fl t ++ fl x).length = _; simp
    have hdp : dpt (Term.add t x) = max (dpt t) (dpt x + 1) := rfl
    obtain ⟨D, rfl⟩ : ∃ k, D = k + 1 := ⟨D - 1, by omega⟩
    have m1 := AT_mem t h1 _ (hd_mem t h1)
    have m2 := AT_mem x h2 _ (hd_mem x h2)
    have n1 := na_ge t
    have p1 := pO_in (z.2 9 (hd t))
    have lt0 := List.length_pos_of_mem (hd_mem t h1)
    have lx0 := List.length_pos_of_mem (hd_mem x h2)
    obtain ⟨rt, et⟩ := fl_hd t h1
    obtain ⟨rx, ex⟩ := fl_hd x h2
    refine ih h1 (D + 1) s F (fun k y hk => hR k y (by show (fl t ++ fl x)[k]? = some y; rw [List.getElem?_append_left (List.getElem?_eq_some_iff.mp hk).1]; exact hk)) (by omega) h8 (by omega) h41 (by omega) (fun w hw1 => ?_)
    obtain ⟨a1, a2, a3, a4, a5, a6⟩ := hw1
    have w9 : w.2 9 (s.1 8) = z.2 9 (hd t) := by
      have := (a6 0 (hd t) (by rw [et]; rfl)).1
      rw [show s.1 8 + ((0 : Nat) : Int) = s.1 8 by omega] at this
      exact this
    refine B114_46 ⟨by omega, by rw [w9]; exact m1.2.1, fun e => ?_, fun _ => ?_⟩
    · exfalso
      rw [w9] at e
      omega
    · refine ihx h2 D w _ (fun k y hk => ?_) (by omega) (by omega) (by omega) (by omega) (by omega) (fun v hv => ?_)
      · have := hR ((fl t).length + k) y (by show (fl t ++ fl x)[(fl t).length + k]? = some y; rw [List.getElem?_append_right (by omega), Nat.add_sub_cancel_left]; exact hk)
        rw [a5.2 38 (by decide), a5.2 39 (by decide), a5.2 40 (by decide), a2, show s.1 41 + ((fl t).length : Int) + (k : Int) = s.1 41 + (((fl t).length + k : Nat) : Int) by omega]
        exact this
      · obtain ⟨b1, b2, b3, b4, b5, b6⟩ := hv
        have v9 : v.2 9 (w.1 8) = z.2 9 (hd x) := by
          have := (b6 0 (hd x) (by rw [ex]; rfl)).1
          rw [show w.1 8 + ((0 : Nat) : Int) = w.1 8 by omega] at this
          exact this
        refine B114_46 ⟨by omega, by rw [v9]; exact m2.2.1, fun _ => ?_, fun e => ?_⟩
        · have e8 : (w.1 8).toNat = (s.1 8).toNat + (fl t).length := by omega
          have e88 : (((s.1 8).toNat : Nat) : Int) = s.1 8 := by omega
          obtain ⟨c1, c2, c3⟩ := rlb_fl t (s.1 8).toNat h1
          obtain ⟨d1, d2, d3⟩ := rlb_fl x ((s.1 8).toNat + (fl t).length) h2
          have pe := partU_e (s := v) (b := s.1 8) (i := na t) (c := w.1 8)
          have pt := partU_at (s := v) (b := s.1 8) (i := na t) (c := w.1 8)
          have po := partU_o (s := v) (b := s.1 8) (i := na t) (c := w.1 8) ⟨n1, by omega⟩
          refine setPart_ok (by omega) (by omega) (by omega) ⟨by omega, hw _ ⟨?_, ?_, ?_, ?_, ?_, fun k y hk => ?_⟩⟩
          · show v.1 8 = _; omega
          · show v.1 41 = _; omega
          · -- the tree behind it
            have vt : ATs v (rlb t (s.1 8).toNat) := AT_ag (by omega) a3 (rlb_nd h1) (fun y hy => by
              have hy2 := rlb_at h1 hy
              obtain ⟨q1, q2, q3⟩ := b4 y (by omega)
              exact ⟨q1.1, q2.1, q2.2, fun i i0 i3 => q3 i i0 i3⟩)
            rw [e8] at b3
            refine ⟨?_, ?_, ?_, ?_, ?_, ?_, ?_⟩
            · refine AT_cg (Int.le_refl _) _ vt (rlb_nd h1) (fun y hy => ⟨by rw [pe.2 9 (by decide)], fun i i0 i1 i2 => ?_⟩) (fun y hy hne => ?_)
              · have hy2 := rlb_at h1 hy
                by_cases e : y = s.1 8
                · have i2 := i2 (by rw [c2, e, e88])
                  rw [c3] at i2
                  subst e
                  simp only [partU, ua_2]
                  rw [if_neg (by omega), if_neg (by omega), if_neg (by omega)]
                · exact (po y ⟨e, by omega⟩).2.2 i i0 (by have := pO_in (v.2 9 y); omega)
              · have hy2 := rlb_at h1 hy
                rw [c2, e88] at hne
                exact (po y ⟨hne, by omega⟩).2.1
            · refine AT_cg (Int.le_refl _) _ b3 (rlb_nd h2) (fun y hy => ⟨by rw [pe.2 9 (by decide)], fun i i0 i1 i2 => ?_⟩) (fun y hy hne => ?_)
              · have hy2 := rlb_at h2 hy
                have := pO_in (v.2 9 y)
                simp only [partU, ua_2]
                rw [if_neg (by omega), if_neg (by omega), if_neg (by omega)]
              · have hy2 := rlb_at h2 hy
                rw [d2] at hne
                exact (po y ⟨by omega, by omega⟩).2.1
            · show na (rlb x _) = pO ((partU v _ _ _).2 9 (hd (rlb x _)))
              rw [d3, d2, pe.2 9 (by decide), show (((s.1 8).toNat + (fl t).length : Nat) : Int) = w.1 8 by omega, v9, ← h3]
            · rw [c2, c3, e88, pe.2 9 (by decide)]
              have := (b4 (s.1 8) (by omega)).1.1
              rw [this, w9]
              exact h4
            · rw [c2, c3, d2, e88, show (((s.1 8).toNat + (fl t).length : Nat) : Int) = w.1 8 by omega]; exact pt.1
            · rw [c2, d2, e88, show (((s.1 8).toNat + (fl t).length : Nat) : Int) = w.1 8 by omega]; exact pt.2.1
            · rw [c3, d2, show (((s.1 8).toNat + (fl t).length : Nat) : Int) = w.1 8 by omega]; exact pt.2.2
          · exact (a4.tr (b4.mo (fun y (q : y < s.1 8) => by omega))).tr (po.mo (fun y (q : y < s.1 8) => by omega))
          · exact (a5.tr b5).tr (pe.up (fun _ q => by cases q) (fun y q => by simp at q ⊢; omega))
          · rw [pe.2 9 (by decide), pe.2 10 (by decide), pe.2 11 (by decide)]
            have hk : (fl t ++ fl x)[k]? = some y := hk
            by_cases hkt : k < (fl t).length
            · rw [List.getElem?_append_left hkt] at hk
              obtain ⟨⟨q1, q2, q3⟩, -⟩ := b4 (s.1 8 + k) (by omega)
              obtain ⟨q4, q5, q6⟩ := a6 k y hk
              exact ⟨q1.trans q4, q2.trans q5, q3.trans q6⟩
            · rw [List.getElem?_append_right (by omega)] at hk
              have := b6 (k - (fl t).length) y hk
              rw [show w.1 8 + ((k - (fl t).length : Nat) : Int) = s.1 8 + (k : Int) by omega] at this
              exact this
        · exfalso
          rw [v9, ← h3] at e
          omega
  | _ => intro h; exact h.elim
theorem bornFrom_ok {z : SM} {p : Int} {D : Nat} {F : Int → SM → Prop} (hp : 0 ≤ p ∧ p < 6) (h : AT (z.2 9) (z.2 14) (z.2 12) (z.2 13) (z.1 8) t) (hf : full (z.2 9) t) (hR : BR z s p t) (hD : dpt t ≤ D) (h8 : 0 ≤ s.1 8) (hl : s.1 8 + (fl t).length ≤ 3000) (h41 : 0 ≤ s.1 41) (hl2 : s.1 41 + (fl t).length ≤ 60) (hF : ∀ w, BF z s w t → F (s.1 8) w) : cm iv L h0 (D + 1) 114 [vr 307, vi p] s (qi F) := by
  refine bf_part hp t h D s F hR hD h8 hl h41 hl2 (fun w hw => ?_)
  have m1 := AT_mem t h _ (hd_mem t h)
  have lt0 := List.length_pos_of_mem (hd_mem t h)
  obtain ⟨rt, et⟩ := fl_hd t h
  have w9 : w.2 9 (s.1 8) = z.2 9 (hd t) := by
    have := (hw.2.2.2.2.2 0 (hd t) (by rw [et]; rfl)).1
    rw [show s.1 8 + ((0 : Nat) : Int) = s.1 8 by omega] at this
    exact this
  have hDp := dpt_pos t
  obtain ⟨D, rfl⟩ : ∃ k, D = k + 1 := ⟨D - 1, by omega⟩
  refine B114_46 ⟨by omega, by rw [w9]; exact m1.2.1, fun _ => hF w hw, fun e => ?_⟩
  exfalso
  rw [w9, ← hf] at e
  omega
/-- shelve() -/
def shvA (s : SM) (n p : Int) : Int := if 0 ≤ p ∧ p < 6 then n else -1
theorem shelve_ok {p : Int} {F : Int → SM → Prop} {Sh : Int → Option Snap} (h : SHT s t) (hN : NB s) (hV : NV s) (hc : s.1 16 ∈ fl t) (hS : ShL s Sh) (hD : 100 ≤ d) (H1 : ¬ (0 ≤ p ∧ p < 6) → F (-1) s) (H2 : 0 ≤ p ∧ p < 6 → ∀ w, SX [] [37, 38, 39, 40] s w → ShL w (shP Sh p (sq (s.1 16) t, s)) → F (fl (sq (s.1 16) t)).length w) : cm iv L h0 d 113 [vr 307, vi p] s (qi F) := by
  obtain ⟨d, rfl⟩ : ∃ k, d = k + 1 := ⟨d - 1, by omega⟩
  obtain ⟨a1, a2, a3, a4, a5, a6, a7⟩ := sq_ok h.1 h.2.1 h.2.2.1 hc
  have hll := h.2.2.2.1
  refine B113 ⟨fun hp => sizeOf_ok h hc (by omega) (fun w w1 w2 => ⟨by omega, ?_⟩), fun hp => H1 (by omega)⟩
  have key : ∀ (m q : List Int) (x : SM), fl (sq (s.1 16) t) = q ++ m → eqx [] [38, 39, 40] (ua w 37 p (fl (sq (s.1 16) t)).length) x → (∀ (k : Nat) (y : Int), q[k]? = some y → x.2 38 (60 * p + k) = s.2 9 y ∧ x.2 39 (60 * p + k) = s.2 10 y ∧ x.2 40 (60 * p + k) = s.2 11 y) → (∀ y, y < 60 * p ∨ 60 * p + 60 ≤ y → x.2 38 y = s.2 38 y ∧ x.2 39 y = s.2 39 y ∧ x.2 40 y = s.2 40 y) → wm iv L h0 (d + 1) 113 29 [lr 307, li p, li (fl (sq (s.1 16) t)).length, li q.length] [] x (qi F) := by
    intro m
    induction m with
    | nil =>
      intro q x e x1 x2 x3
      have eq : q = fl (sq (s.1 16) t) := by rw [e]; simp
      have x37 : ∀ y, x.2 37 y = if y = p then ((fl (sq (s.1 16) t)).length : Int) else s.2 37 y := fun y => by
        rw [x1.2 37 (by decide), ua_2, w1.2 37 (by decide)]
        by_cases e1 : y = p
        · rw [if_pos ⟨rfl, e1⟩, if_pos e1]
        · rw [if_neg (by omega), if_neg e1]
      have x2' : x.1 2 = s.1 2 := (x1.1 2 (by decide)).trans (w1.1 2 (by decide))
      refine B113_29 ⟨fun _ => H2 (by omega) x ?_ (fun r r0 r6 => ⟨fun hn => ?_, fun u hu => ?_⟩), fun q2 => by rw [eq] at q2; omega⟩
      · refine (SX_lay w1).up (fun _ q => by cases q) (fun _ q => by cases q) |>.tr ⟨fun y _ _ => ?_, fun f _ b2 i _ => ?_⟩
        · exact x1.1 y (by simp)
        · simp at b2
          rw [x1.2 f (by simp; omega), ua_2, if_neg (by omega)]
      · unfold shP at hn
        by_cases e1 : r = p
        · rw [if_pos e1] at hn; cases hn
        · rw [if_neg e1] at hn
          rw [x37, if_neg e1]
          exact (hS r r0 r6).1 hn
      · unfold shP at hu
        by_cases e1 : r = p
        · rw [if_pos e1] at hu
          cases hu
          subst e1
          refine ⟨by rw [x37, if_pos rfl], ⟨a1, a2, a5, Nat.le_trans a6 hll⟩, fun k y hk => ?_⟩
          refine ⟨x2 k y (by rw [eq]; exact hk), ?_⟩
          have hy := h.lt (a4 y (List.mem_of_getElem? hk))
          have nb := hN y hy.1 hy.2.1
          have nv := hV y hy.1 hy.2.1
          rw [x2']
          exact ⟨nb.1, nb.2.1, nb.2.2.1, nb.2.2.2, nv.1, nv.2⟩
        · rw [if_neg e1] at hu
          have := (hS r r0 r6).2 u hu
          have hm := hS.many r r0 r6
          exact SE_up this (by rw [x2']; exact Int.le_refl _) (by rw [x37, if_neg e1]) (fun k hk => x3 _ (by omega))
    | cons y m ih =>
      intro q x e x1 x2 x3
      obtain ⟨c1, c2⟩ := LR_cons w2 e
      have hy : y ∈ fl t := a4 y (by rw [e]; simp)
      have hyl := h.lt hy
      have e' := e
      rw [app1] at e'
      have e1 : ((q ++ [y]).length : Int) = q.length + 1 := by simp
      have hpl : (q.length : Int) < (fl (sq (s.1 16) t)).length := by rw [e]; simp; omega
      have x17 : x.2 17 q.length = y := by rw [x1.2 17 (by decide)]; exact c1
      have x9 : x.2 9 = s.2 9 := (x1.2 9 (by decide)).trans (w1.2 9 (by decide))
      have x10 : x.2 10 = s.2 10 := (x1.2 10 (by decide)).trans (w1.2 10 (by decide))
      have x11 : x.2 11 = s.2 11 := (x1.2 11 (by decide)).trans (w1.2 11 (by decide))
      refine B113_29 ⟨fun q => by omega, fun _ => ?_⟩
      rw [x17, x9, x10, x11]
      refine ⟨by omega, by omega, by omega, by omega, by omega, by omega, ?_⟩
      have := ih (q ++ [y]) (ua (ua (ua x 38 (60 * p + q.length) (s.2 9 y)) 39 (60 * p + q.length) (s.2 10 y)) 40 (60 * p + q.length) (s.2 11 y)) e' (eqx_ua (eqx_ua (eqx_ua x1 (by decide)) (by decide)) (by decide)) (fun k y' hk => ?_) (fun y' hy' => ?_)
      · rw [e1] at this
        exact this
      · simp only [ua_2]
        by_cases hkp : k < q.length
        · rw [List.getElem?_append_left hkp] at hk
          rw [if_neg (by omega), if_neg (by omega), if_neg (by omega), if_neg (by omega), if_neg (by omega), if_neg (by omega), if_neg (by omega), if_neg (by omega), if_neg (by omega)]
          exact x2 k y' hk
        · rw [List.getElem?_append_right (by omega)] at hk
          have hk0 : k = q.length := by
            have := (List.getElem?_eq_some_iff.mp hk).1
            simp at this
            omega
          subst hk0
          simp at hk
          subst hk
          simp
      · simp only [ua_2]
        rw [if_neg (by omega), if_neg (by omega), if_neg (by omega), if_neg (by omega), if_neg (by omega), if_neg (by omega), if_neg (by omega), if_neg (by omega), if_neg (by omega)]
        exact x3 y' hy'
  refine key _ [] _ rfl eqx.rf (fun k y hk => by simp at hk) (fun y _ => ?_)
  show w.2 38 y = _ ∧ w.2 39 y = _ ∧ w.2 40 y = _
  rw [w1.2 38 (by decide), w1.2 39 (by decide), w1.2 40 (by decide)]
  exact ⟨rfl, rfl, rfl⟩
end
end
section
/-! fill(). -/
noncomputable def filT (s : SM) (t : Term) (e : Snap) : Term := rpT (s.1 16) (rlb e.1 (s.1 8).toNat) t
def filN (s : SM) (Sh : Int → Option Snap) (p : Int) : Nat := match Sh p with
  | none => 0
  | some e => (fl e.1).length
/-- why not: 1 a bad place, 2 no hole, 3 nothing there, 4 full; 0: it can be done -/
def filF (s : SM) (t : Term) (Sh : Int → Option Snap) (p : Int) : Nat := if 0 ≤ p ∧ p < 6 then (if s.2 9 (s.1 16) = 0 then (if filN s Sh p = 0 then 3 else if 60 < (fl t).length - 1 + filN s Sh p ∨ 3000 < s.1 8 + filN s Sh p then 4 else 0) else 2) else 1
/-- a done fill -/
def FDONE (s : SM) (t : Term) (K : List Snap) (e : Snap) (v : SM) : Prop := SX [8, 15, 16, 24, 35] [9, 10, 11, 12, 13, 14, 25, 26, 27, 28, 29, 42] s v ∧ (v.1 8 = s.1 8 + (fl e.1).length ∧ v.1 16 = s.1 8 ∧ v.1 35 = chg (s.1 35) 1) ∧ (∀ y, y < s.1 8 → v.2 9 y = s.2 9 y ∧ v.2 10 y = s.2 10 y ∧ v.2 11 y = s.2 11 y) ∧ (∀ (k : Nat) (x : Int), (fl e.1)[k]? = some x → v.2 9 (s.1 8 + k) = e.2.2 9 x ∧ v.2 10 (s.1 8 + k) = e.2.2 10 x ∧ v.2 11 (s.1 8 + k) = e.2.2 11 x) ∧ (∀ y, v.2 42 y = if y = s.1 16 then s.1 8 + 1 else s.2 42 y) ∧ KL v (push K (t, s)) ∧ AFT v (filT s t e) ∧ (∀ z, z < s.1 8 → v.2 12 z = s.2 12 z ∧ v.2 13 z = s.2 13 z) ∧ v.2 12 (s.1 8) = s.2 12 (s.1 16) ∧ v.2 13 (s.1 8) = s.2 13 (s.1 16)
section
variable {iv : List (Int × Int)} {L : Nat} {h0 : MH} {s : SM} {t : Term} {d : Nat}
theorem fill_ok {n p : Int} {F : Int → SM → Prop} {K : List Snap} {Sh : Int → Option Snap} (h : AFT s t) (hcm : CM n s) (hn : n ≤ 600) (hS : ShL s Sh) (hK : KL s K) (hD : 200 ≤ d) (H1 : filF s t Sh p = 1 → F (-1) s) (H2 : filF s t Sh p = 2 → F (-4) s) (H3 : filF s t Sh p = 3 → F (-3) (mtU s 1)) (H4 : ∀ w, filF s t Sh p = 4 → SX [] [] s w → F (-2) w) (H0 : ∀ e v, filF s t Sh p = 0 → Sh p = some e → FDONE s t K e v → F (s.1 8) v) : cm iv L h0 d 115 [vr 307, vi p] s (qi F) := by
  obtain ⟨d, rfl⟩ : ∃ k, d = k + 2 := ⟨d - 2, by omega⟩
  obtain ⟨h, hN, hc⟩ := h
  have hct := h.lt hc
  have h8 := h.2.2.2.2.1
  have hll := h.2.2.2.1
  have hlp := List.length_pos_of_mem hc
  have hNx := hN
  refine B115 ⟨fun hp => ⟨by omega, fun ho => ⟨by omega, fun e37 => ?_, fun e37 => meets_ok hcm hn (by decide) (H3 ?_)⟩, fun ho => H2 (by unfold filF; rw [if_pos (by omega), if_neg ho])⟩, fun hp => H1 (by unfold filF; rw [if_neg (by omega)])⟩
  · -- something is there
    obtain ⟨s1, s2⟩ := hS p hp.1 (by omega)
    cases hSp : Sh p with
    | none => exact absurd (s1 hSp) e37
    | some e =>
      obtain ⟨b1, b2, b3⟩ := s2 e hSp
      obtain ⟨b4, b5, b6, b7⟩ := b2
      have fn : filN s Sh p = (fl e.1).length := by unfold filN; rw [hSp]
      have lp := List.length_pos_of_mem (hd_mem _ b4)
      have fl4 : (60 < (fl t).length - 1 + (fl e.1).length ∨ 3000 < s.1 8 + (fl e.1).length) → filF s t Sh p = 4 := fun q => by
        unfold filF
        rw [if_pos (by omega), if_pos ho, fn, if_neg (by omega), if_pos q]
      refine nodes_ok h (by omega) (fun w w1 => ?_)
      rw [w1.2 37 (by decide), w1.1 8 (by decide), b1]
      refine ⟨by omega, by omega, fun q => H4 w (fl4 (by omega)) (SX_lay w1), fun q => ⟨by omega, fun q2 => ?_, fun q2 => H4 w (fl4 (by omega)) (SX_lay w1)⟩⟩
      have f0 : filF s t Sh p = 0 := by
        unfold filF
        rw [if_pos (by omega), if_pos ho, fn, if_neg (by omega), if_neg (by omega)]
      have hTw := h.x (SX_lay w1) (by decide) (by decide)
      refine beginAct_ok hTw (by omega) (fun y y1 y2 y3 => ?_)
      have y1 : eqx [18, 30, 31] [17, 32, 33, 34] s y := (w1.up (fun y q => by simp at q ⊢; omega) (fun y q => by simp at q ⊢; omega)).tr y1
      have y3 : AH y (t, s) := by
        obtain ⟨c1, c2, c3⟩ := y3
        refine ⟨c1, c2.trans (w1.1 16 (by decide)), fun k z hk => ?_⟩
        have := c3 k z hk
        rw [show ((t, w) : Snap).2.2 10 z = s.2 10 z from by show w.2 10 z = _; rw [w1.2 10 (by decide)], show ((t, w) : Snap).2.2 14 = s.2 14 from w1.2 14 (by decide)] at this
        exact this
      have y8 : y.1 8 = s.1 8 := y1.1 8 (by decide)
      have y16 : y.1 16 = s.1 16 := y1.1 16 (by decide)
      have hdp := dpt_len _ b4
      refine bornFrom_ok (z := e.2) (t := e.1) (D := d) (by omega) b4 b5 (fun k x hk => ?_) (by omega) (by show 0 ≤ y.1 8; omega) (by show y.1 8 + _ ≤ 3000; omega) (Int.le_refl 0) (by show (0 : Int) + _ ≤ 60; omega) (fun v hv => ?_)
      · obtain ⟨g1, g2⟩ := b3 k x hk
        show (y.2 38 (60 * p + (0 + (k : Int))) = _ ∧ y.2 39 (60 * p + (0 + (k : Int))) = _ ∧ y.2 40 (60 * p + (0 + (k : Int))) = _) ∧ _
        rw [y1.2 38 (by decide), y1.2 39 (by decide), y1.2 40 (by decide), Int.zero_add]
        exact ⟨g1, g2.2.2.2.2.1, g2.2.2.2.2.2⟩
      · obtain ⟨v1, v2, v3, v4, v5, v6⟩ := hv
        have v1 : v.1 8 = s.1 8 + (fl e.1).length := by rw [v1]; show y.1 8 + _ = _; rw [y8]
        have v3 : ATs v (rlb e.1 (s.1 8).toNat) := by have := v3; rw [show (us y 41 0).1 8 = s.1 8 from y8] at this; exact this
        have v4 : OLD (fun z => z < s.1 8) y v := fun z hz => v4 z (by show z < y.1 8; rw [y8]; exact hz)
        have v5' : eqx [8, 41] [9, 10, 11, 12, 13, 14] y v := (eqx_us (s := y) (t := y) eqx.rf (y := 41) (z := 0) (by decide)).tr (v5.up (fun y q => q) (fun y q => by simp at q ⊢; omega))
        have v6 : ∀ (k : Nat) (x : Int), (fl e.1)[k]? = some x → v.2 9 (s.1 8 + k) = e.2.2 9 x ∧ v.2 10 (s.1 8 + k) = e.2.2 10 x ∧ v.2 11 (s.1 8 + k) = e.2.2 11 x := fun k x hk => by
          have := v6 k x hk
          rw [show (us y 41 0).1 8 = s.1 8 from y8] at this
          exact this
        have o12 : ∀ z, z < s.1 8 → v.2 12 z = s.2 12 z ∧ v.2 13 z = s.2 13 z := fun z hz => by
          have := (v4 z hz).2.1
          rw [this.1, this.2, y1.2 12 (by decide), y1.2 13 (by decide)]
          exact ⟨rfl, rfl⟩
        have o9 : ∀ z, z < s.1 8 → v.2 9 z = s.2 9 z ∧ v.2 10 z = s.2 10 z ∧ v.2 11 z = s.2 11 z := fun z hz => by
          have := (v4 z hz).1
          rw [this.1, this.2.1, this.2.2, y1.2 9 (by decide), y1.2 10 (by decide), y1.2 11 (by decide)]
          exact ⟨rfl, rfl, rfl⟩
        have o14 : ∀ z i, 0 ≤ i → i < 3 → z < s.1 8 → v.2 14 (3 * z + i) = s.2 14 (3 * z + i) := fun z i i0 i3 hz => by
          rw [(v4 z hz).2.2 i i0 i3, y1.2 14 (by decide)]
        have u16 : (us y 41 0).1 8 = s.1 8 := y8
        rw [y16, u16]
        have hc12 := o12 _ hct.2.1
        have hup := up_in h hc
        refine replace_ok (by omega) (by rw [hc12.1, hc12.2]; exact hup) (by omega) ⟨by omega, by omega, ?_⟩
        obtain ⟨r1, r2, r3, r4, r5⟩ := replU_in (s1 := v) (b := s.1 8) h hc hc12.1 hc12.2
        have E9 : (replU v (s.1 16) (s.1 8)).2 9 = v.2 9 := replU_e.2 9 (by decide)
        have E10 : (replU v (s.1 16) (s.1 8)).2 10 = v.2 10 := replU_e.2 10 (by decide)
        have E11 : (replU v (s.1 16) (s.1 8)).2 11 = v.2 11 := replU_e.2 11 (by decide)
        have E8 : (replU v (s.1 16) (s.1 8)).1 8 = v.1 8 := replU_e.1 8 (by decide)
        have f9 : (us (ua (replU v (s.1 16) (s.1 8)) 42 (s.1 16) (s.1 8 + 1)) 16 (s.1 8)).2 9 = v.2 9 := by
          rw [us_2]; funext z; rw [ua_2, if_neg (by omega), E9]
        have f10 : (us (ua (replU v (s.1 16) (s.1 8)) 42 (s.1 16) (s.1 8 + 1)) 16 (s.1 8)).2 10 = v.2 10 := by
          rw [us_2]; funext z; rw [ua_2, if_neg (by omega), E10]
        have f11 : (us (ua (replU v (s.1 16) (s.1 8)) 42 (s.1 16) (s.1 8 + 1)) 16 (s.1 8)).2 11 = v.2 11 := by
          rw [us_2]; funext z; rw [ua_2, if_neg (by omega), E11]
        have fo : ∀ f, f ≠ 42 → (us (ua (replU v (s.1 16) (s.1 8)) 42 (s.1 16) (s.1 8 + 1)) 16 (s.1 8)).2 f = (replU v (s.1 16) (s.1 8)).2 f := fun f hf => by
          rw [us_2]; funext z; rw [ua_2, if_neg (fun q => hf q.1)]
        obtain ⟨l1, l2, l3⟩ := rlb_fl e.1 (s.1 8).toNat b4
        have l2 : hd (rlb e.1 (s.1 8).toNat) = s.1 8 := by rw [l2]; omega
        have hub : 3 * s.2 12 (s.1 16) + s.2 13 (s.1 16) < 3 * s.1 8 := by
          by_cases q : s.1 16 = hd t
          · have q1 := h.2.2.2.2.2.2.1
            have q2 := h.2.2.2.2.2.2.2
            rw [← q] at q1 q2
            omega
          · obtain ⟨u1, u2, u3⟩ := (AT_mem t h.1 _ hc).2.2.2 q
            have := h.lt u1
            have := pO_in (s.2 9 (s.2 12 (s.1 16)))
            omega
        have hl := len_rp h hc (rlb e.1 (s.1 8).toNat)
        have lfl : (fl (rlb e.1 (s.1 8).toNat)).length = (fl e.1).length := by rw [l1]; simp
        have hsp := sq_pos h hc
        rw [lfl] at hl
        have aft : AFT (us (ua (replU v (s.1 16) (s.1 8)) 42 (s.1 16) (s.1 8 + 1)) 16 (s.1 8)) (filT s t e) := by
          refine ⟨SHT_rp (w := us (ua (replU v (s.1 16) (s.1 8)) 42 (s.1 16) (s.1 8 + 1)) 16 (s.1 8)) h hc ⟨?_, ?_⟩ ?_ ?_ (rlb_nd b4) (fun z hz hzt => ?_) (fun z hz hzn => ?_) ?_ ?_ ?_ (by omega), NB_new hN ?_ (fun z z0 z1 => ?_) (fun z z0 z1 => ?_), ?_⟩
          · show s.1 8 ≤ (replU v (s.1 16) (s.1 8)).1 8; omega
          · show (replU v (s.1 16) (s.1 8)).1 8 ≤ 3000; omega
          · refine AT_cg (by show v.1 8 ≤ (replU v (s.1 16) (s.1 8)).1 8; omega) _ v3 (rlb_nd b4) (fun z hz => ⟨by rw [f9], fun i i0 i1 _ => ?_⟩) (fun z hz hne => ?_)
            · have hz2 := rlb_at b4 hz
              have := pO_in (v.2 9 z)
              rw [fo 14 (by decide)]
              exact r5 _ (by omega)
            · rw [l2] at hne
              rw [fo 12 (by decide), fo 13 (by decide)]
              exact r4 z hne
          · show na (rlb e.1 (s.1 8).toNat) = pO ((us (ua (replU v (s.1 16) (s.1 8)) 42 (s.1 16) (s.1 8 + 1)) 16 (s.1 8)).2 9 (hd (rlb e.1 (s.1 8).toNat)))
            rw [l3, l2, f9]
            obtain ⟨r, er⟩ := fl_hd _ b4
            have := (v6 0 (hd e.1) (by rw [er]; rfl)).1
            rw [show s.1 8 + ((0 : Nat) : Int) = s.1 8 by omega] at this
            rw [this]
            exact b5
          · have := rlb_at b4 hz
            have := h.lt hzt
            omega
          · have hzl := h.lt hz
            rw [f9, fo 12 (by decide), fo 13 (by decide), fo 14 (by decide)]
            have q1 := r4 z (by omega)
            have q2 := o12 z hzl.2.1
            exact ⟨(o9 z hzl.2.1).1, q1.1.trans q2.1, q1.2.trans q2.2, fun i i0 i3 hi => (r5 _ hi).trans (o14 z i i0 i3 hzl.2.1)⟩
          · rw [fo 12 (by decide), fo 13 (by decide), l2]; exact r1
          · intro q
            rw [fo 14 (by decide), l2]; exact r2 q
          · rw [l2]
            show (replU v (s.1 16) (s.1 8)).1 15 = _
            rw [r3, v5'.1 15 (by decide), y1.1 15 (by decide)]
          · exact (replU_e.1 2 (by decide)).trans ((v5'.1 2 (by decide)).trans (y1.1 2 (by decide)))
          · rw [f9, f10, f11]; exact o9 z z1
          · have z1 : z < (replU v (s.1 16) (s.1 8)).1 8 := z1
            have hk : (z - s.1 8).toNat < (fl e.1).length := by omega
            have g := v6 _ _ (List.getElem?_eq_getElem hk)
            rw [show s.1 8 + (((z - s.1 8).toNat : Nat) : Int) = z by omega] at g
            obtain ⟨-, g2⟩ := b3 _ _ (List.getElem?_eq_getElem hk)
            unfold nodOk
            rw [f9, f10, f11, g.1, g.2.1, g.2.2, show (us (ua (replU v (s.1 16) (s.1 8)) 42 (s.1 16) (s.1 8 + 1)) 16 (s.1 8)).1 2 = s.1 2 from (replU_e.1 2 (by decide)).trans ((v5'.1 2 (by decide)).trans (y1.1 2 (by decide)))]
            exact ⟨g2.1, g2.2.1, g2.2.2.1, g2.2.2.2.1⟩
          · show s.1 8 ∈ _
            have hm := hd_mem _ v3
            rw [l2] at hm
            exact hl.2 _ hm
        have XE : eqx [8, 15, 16, 41] [9, 10, 11, 12, 13, 14, 36, 42] y (us (ua (replU v (s.1 16) (s.1 8)) 42 (s.1 16) (s.1 8 + 1)) 16 (s.1 8)) :=
          eqx_us (eqx_ua ((v5'.up (fun y q => by simp at q ⊢; omega) (fun y q => by simp at q ⊢; omega)).tr (replU_e.up (fun y q => by simp at q ⊢; omega) (fun y q => by simp at q ⊢; omega))) (by decide)) (by decide)
        refine act_end (s' := us (ua (replU v (s.1 16) (s.1 8)) 42 (s.1 16) (s.1 8 + 1)) 16 (s.1 8)) h hN hc hK y1 y3 XE ?_ ?_ SX.rf (fun u u1 u2 => H0 e u f0 hSp ⟨?_, ⟨?_, ?_, ?_⟩, ?_, ?_, ?_, u2, ?_, ?_, ?_⟩)
        · show s.1 8 ≤ (replU v (s.1 16) (s.1 8)).1 8; omega
        · intro z _ z1
          rw [f9]; exact (o9 z z1).1
        · refine SX.tr (SX.eq y1 (by decide) (by decide)) (SX.tr (SX.eq XE (by decide) (by decide)) ((SX.eq (s := us (ua (replU v (s.1 16) (s.1 8)) 42 (s.1 16) (s.1 8 + 1)) 16 (s.1 8)) (eqx_us eqx.rf (ys := [35]) (fs := []) (y := 35) (z := chg (s.1 35) 1) (by decide)) (by decide) (by decide)).tr (u1.up (by decide) (by decide))))
        · rw [u1.1 8 (by decide) (by decide)]
          show (replU v (s.1 16) (s.1 8)).1 8 = _
          omega
        · rw [u1.1 16 (by decide) (by decide)]; rfl
        · rw [u1.1 35 (by decide) (by decide)]; rfl
        · intro z z1
          have hi : ∀ f, f = 9 ∨ f = 10 ∨ f = 11 → ¬ scI f z := fun f q => by unfold scI; omega
          rw [u1.2 9 (by decide) (by decide) z (hi 9 (by decide)), u1.2 10 (by decide) (by decide) z (hi 10 (by decide)), u1.2 11 (by decide) (by decide) z (hi 11 (by decide)), us_2, f9, f10, f11]
          exact o9 z z1
        · intro k x hk
          have hkl := (List.getElem?_eq_some_iff.mp hk).1
          have hi : ∀ f, f = 9 ∨ f = 10 ∨ f = 11 → ¬ scI f (s.1 8 + k) := fun f q => by unfold scI; omega
          rw [u1.2 9 (by decide) (by decide) _ (hi 9 (by decide)), u1.2 10 (by decide) (by decide) _ (hi 10 (by decide)), u1.2 11 (by decide) (by decide) _ (hi 11 (by decide)), us_2, f9, f10, f11]
          exact v6 k x hk
        · intro z
          rw [u1.2 42 (by decide) (by decide) z (by unfold scI; omega), us_2, us_2, ua_2]
          by_cases q : z = s.1 16
          · rw [if_pos ⟨rfl, q⟩, if_pos q]
          · rw [if_neg (by omega), if_neg q, replU_e.2 42 (by decide), v5'.2 42 (by decide), y1.2 42 (by decide)]
        · exact AFT.x (ey := [24, 35]) (ef := [25, 26, 27, 28, 29]) aft (SX.tr (SX.eq (eqx_us eqx.rf (ys := [35]) (fs := []) (y := 35) (z := chg (s.1 35) 1) (by decide)) (by decide) (by decide)) (u1.up (by decide) (by decide))) (by decide) (by decide)
        · intro z z1
          have hi : ∀ f, f = 12 ∨ f = 13 → ¬ scI f z := fun f q => by unfold scI; omega
          rw [u1.2 12 (by decide) (by decide) z (hi 12 (by decide)), u1.2 13 (by decide) (by decide) z (hi 13 (by decide)), us_2, fo 12 (by decide), fo 13 (by decide)]
          have q1 := r4 z (by omega)
          have q2 := o12 z z1
          exact ⟨q1.1.trans q2.1, q1.2.trans q2.2⟩
        · have hpos : 0 < (fl e.1).length := by
            obtain ⟨r, er⟩ := fl_hd _ b4
            rw [er]; simp
          have hi : ∀ f, f = 12 ∨ f = 13 → ¬ scI f (s.1 8) := fun f q => by unfold scI; omega
          rw [u1.2 12 (by decide) (by decide) _ (hi 12 (by decide)), u1.2 13 (by decide) (by decide) _ (hi 13 (by decide)), us_2, fo 12 (by decide), fo 13 (by decide)]
          exact r1
  · unfold filF
    have : filN s Sh p = 0 := by
      unfold filN
      obtain ⟨s1, s2⟩ := hS p hp.1 (by omega)
      cases hSp : Sh p with
      | none => rfl
      | some e => have := (s2 e hSp).1; show (fl e.1).length = 0; omega
    rw [if_pos (by omega), if_pos ho, if_pos this]
end
end
section
/-! What judging comes to hangs on the tree alone. -/
theorem AT_un {so pa up pl so' pa' up' pl' : Int → Int} {B B' : Int} : ∀ (t : Term), AT so pa up pl B t → AT so' pa' up' pl' B' t → (∀ y, y ∈ fl t → y ≠ hd t → up' y = up y ∧ pl' y = pl y) ∧ ∀ y, y ∈ fl t → ∀ i, 0 ≤ i → i < pO (so y) → (y = hd t → i < na t) → pa' (3 * y + i) = pa (3 * y + i) := by
  intro t
  induction t with
  | index n =>
    intro _ _
    refine ⟨fun y hy hn => absurd (List.mem_singleton.mp hy) hn, fun y hy i i0 _ hi => ?_⟩
    have := hi (List.mem_singleton.mp hy)
    have : i < 0 := this
    omega
  | add t x ih ihx =>
    intro h h'
    obtain ⟨h1, h2, h3, h4, h5, h6, h7⟩ := h
    obtain ⟨k1, k2, k3, k4, k5, k6, k7⟩ := h'
    obtain ⟨a1, a2⟩ := ih h1 k1
    obtain ⟨b1, b2⟩ := ihx h2 k2
    refine ⟨fun y hy hn => ?_, fun y hy i i0 ip hi => ?_⟩
    · rcases List.mem_append.mp hy with q | q
      · exact a1 y q hn
      · by_cases e : y = hd x
        · rw [e, h6, h7, k6, k7]; exact ⟨rfl, rfl⟩
        · exact b1 y q e
    · rcases List.mem_append.mp hy with q | q
      · by_cases e : y = hd t
        · by_cases e2 : i = na t
          · rw [e, e2, h5, k5]
          · refine a2 y q i i0 ip (fun _ => ?_)
            have hi : i < na t + 1 := hi e
            omega
        · exact a2 y q i i0 ip (fun q => absurd q e)
      · refine b2 y q i i0 ip (fun e => ?_)
        rw [h3, ← e]
        exact ip
  | _ => intro h; exact h.elim
/-- a tree, wherever births are -/
def SHW (s : SM) (t : Term) : Prop := AT (s.2 9) (s.2 14) (s.2 12) (s.2 13) 3004 t ∧ full (s.2 9) t ∧ (fl t).Nodup ∧ hd t = s.1 15 ∧ s.2 12 (hd t) = -9 ∧ s.2 13 (hd t) = -9
theorem SHT.w {s : SM} {t : Term} (h : SHT s t) : SHW s t := ⟨AT_B (by have := h.2.2.2.2.1; omega) t h.1, h.2.1, h.2.2.1, h.2.2.2.2.2.1, h.2.2.2.2.2.2.1, h.2.2.2.2.2.2.2⟩
theorem SHW.ul {s w : SM} {t : Term} (h : SHW s t) (h' : SHW w t) {y : Int} (hy : y ∈ fl t) : w.2 12 y = s.2 12 y ∧ w.2 13 y = s.2 13 y := by
  by_cases e : y = hd t
  · rw [e, h.2.2.2.2.1, h'.2.2.2.2.1, h.2.2.2.2.2, h'.2.2.2.2.2]; exact ⟨rfl, rfl⟩
  · exact (AT_un t h.1 h'.1).1 y hy e
theorem SHW.pa {s w : SM} {t : Term} (h : SHW s t) (h' : SHW w t) {y i : Int} (hy : y ∈ fl t) (h0 : 0 ≤ i) (hi : i < pO (s.2 9 y)) : w.2 14 (3 * y + i) = s.2 14 (3 * y + i) :=
  (AT_un t h.1 h'.1).2 y hy i h0 hi (fun e => by have := h.2.1; unfold full at this; rw [this, ← e]; exact hi)
theorem SHW.up {s : SM} {t : Term} (h : SHW s t) {y : Int} (hy : y ∈ fl t) (hu : s.2 12 y ≠ -9) : s.2 12 y ∈ fl t := by
  refine ((AT_mem t h.1 y hy).2.2.2 (fun e => hu ?_)).1
  rw [e]
  exact h.2.2.2.2.1
theorem bnd_mem {s : SM} {t : Term} (h : SHW s t) {nu : Int → Int} : ∀ (n : Nat) (y x : Int), y ∈ fl t → bnd (s.2 9) nu (s.2 12) (s.2 13) n y x = -9 ∨ (bnd (s.2 9) nu (s.2 12) (s.2 13) n y x ∈ fl t ∧ (s.2 9 (bnd (s.2 9) nu (s.2 12) (s.2 13) n y x) = 8 ∨ s.2 9 (bnd (s.2 9) nu (s.2 12) (s.2 13) n y x) = 10)) := by
  intro n
  induction n with
  | zero => intro y x _; exact Or.inl rfl
  | succ n ih =>
    intro y x hy
    unfold bnd
    by_cases e : s.2 12 y = -9
    · rw [if_pos e]; exact Or.inl rfl
    · have hu := h.up hy e
      rw [if_neg e]
      by_cases e2 : (s.2 9 (s.2 12 y) = 8 ∨ (s.2 9 (s.2 12 y) = 10 ∧ s.2 13 y = 1)) ∧ nu (s.2 12 y) = x
      · rw [if_pos e2]; exact Or.inr ⟨hu, e2.1.imp id (fun q => q.1)⟩
      · rw [if_neg e2]; exact ih _ x hu
theorem bnd_cg {s w : SM} {t : Term} (h : SHW s t) (h' : SHW w t) {nu nu' : Int → Int} (h9 : ∀ y, y ∈ fl t → w.2 9 y = s.2 9 y) (hn : ∀ y, y ∈ fl t → s.2 9 y = 8 ∨ s.2 9 y = 10 → nu' y = nu y) : ∀ (n : Nat) (y x : Int), y ∈ fl t → bnd (w.2 9) nu' (w.2 12) (w.2 13) n y x = bnd (s.2 9) nu (s.2 12) (s.2 13) n y x := by
  intro n
  induction n with
  | zero => intro y x _; rfl
  | succ n ih =>
    intro y x hy
    unfold bnd
    obtain ⟨e1, e2⟩ := h.ul h' hy
    rw [e1, e2]
    by_cases e : s.2 12 y = -9
    · rw [if_pos e, if_pos e]
    · have hu := h.up hy e
      rw [if_neg e, if_neg e, h9 _ hu, ih _ x hu]
      by_cases e3 : s.2 9 (s.2 12 y) = 8 ∨ (s.2 9 (s.2 12 y) = 10 ∧ s.2 13 y = 1)
      · rw [hn _ hu (e3.imp id (fun q => q.1))]
      · rw [if_neg (fun q => e3 q.1), if_neg (fun q => e3 q.1)]
section
variable {so nu td pa : Int → Int} {kk : Int → Term} {bd : Int → Int → Int} {A : Option Term} {J : JT}
theorem jd_0 (b : Nat) : jd so nu td pa kk bd (.index b) A J = jen (so b) b A (if so b = 0 then (jin b A J, .null) else if so b = 1 then (jin b A J, .result) else if so b = 2 then (jin b A J, .thrown) else jnm so td pa kk (bd b (nu b)) b (jin b A J)) := rfl
theorem jd_1 (b : Nat) (x : Term) : jd so nu td pa kk bd (.add (.index b) x) A J = jen (so b) b A (
      if so b = 8 then jdf (jd so nu td pa kk bd x) b (kk (td b)) A (jin b A J)
      else if so b = 15 then ((jd so nu td pa kk bd x (some (kk (td b))) (jin b A J)).1, kk (td b))
      else jhf (jd so nu td pa kk bd x) (hd x) (so b) (jin b A J)) := rfl
theorem jd_2 (b : Nat) (x y : Term) : jd so nu td pa kk bd (.add (.add (.index b) x) y) A J = jen (so b) b A (
      if so b = 9 then jus (jd so nu td pa kk bd x) (jd so nu td pa kk bd y) (hd x) (jin b A J)
      else if so b = 10 then jd so nu td pa kk bd y A (jd so nu td pa kk bd x none (jin b A J)).1
      else if so b = 12 then jpr (jd so nu td pa kk bd x) (jd so nu td pa kk bd y) A (jin b A J)
      else ((jd so nu td pa kk bd y (some .result) (jd so nu td pa kk bd x (some .result) (jin b A J)).1).1, if so b = 7 then .thrown else .result)) := rfl
theorem jd_3 (b : Nat) (x y z : Term) : jd so nu td pa kk bd (.add (.add (.add (.index b) x) y) z) A J = jen (so b) b A (jpk (jd so nu td pa kk bd x) (jd so nu td pa kk bd y) (jd so nu td pa kk bd z) b A (jin b A J)) := rfl
end
/-- cells that agree where judging looks -/
theorem jd_cg {so nu td pa so' nu' td' pa' up pl : Int → Int} {kk kk' : Int → Term} {bd bd' : Int → Int → Int} {B : Int} (S : Int → Prop) (hs : ∀ x, S x → so' x = so x ∧ nu' x = nu x ∧ (so x = 8 ∨ so x = 15 → kk' (td' x) = kk (td x))) (hb : ∀ x y, S x → bd' x y = bd x y ∧ (bd x y = -9 ∨ (S (bd x y) ∧ (so (bd x y) = 8 ∨ pa' (3 * bd x y) = pa (3 * bd x y))))) : ∀ (n : Nat) (t : Term), dpt t ≤ n → AT so pa up pl B t → (∀ x, x ∈ fl t → S x) → jd so' nu' td' pa' kk' bd' t = jd so nu td pa kk bd t := by
  intro n
  induction n with
  | zero => intro t h; have := dpt_pos t; omega
  | succ n ih =>
    intro t hn hA hS
    funext A J
    cases t with
    | index b =>
      have hSb := hS b (List.mem_singleton.mpr rfl)
      obtain ⟨s1, s2, s3⟩ := hs b hSb
      rw [jd_0, jd_0, s1, s2]
      obtain ⟨b1, b2⟩ := hb b (nu b) hSb
      rw [b1]
      have : jnm so' td' pa' kk' (bd b (nu b)) b (jin b A J) = jnm so td pa kk (bd b (nu b)) b (jin b A J) := by
        unfold jnm
        by_cases e4 : bd b (nu b) = -9
        · rw [if_pos e4, if_pos e4]
        · obtain ⟨b3, b4⟩ := b2.resolve_left e4
          obtain ⟨u1, u2, u3⟩ := hs _ b3
          rw [if_neg e4, if_neg e4, u1]
          by_cases e5 : so (bd b (nu b)) = 8
          · rw [if_pos e5, if_pos e5, u3 (Or.inl e5)]
          · rw [if_neg e5, if_neg e5, b4.resolve_left e5]
      rw [this]
    | add t1 y =>
      have hd1 : dpt (Term.add t1 y) = max (dpt t1) (dpt y + 1) := rfl
      have fy := ih y (by omega) hA.2.1 (fun x hx => hS x (List.mem_append_right _ hx))
      cases t1 with
      | index b =>
        obtain ⟨s1, s2, s3⟩ := hs b (hS b (List.mem_append_left _ (List.mem_singleton.mpr rfl)))
        rw [jd_1, jd_1, s1, fy]
        by_cases e8 : so b = 8
        · rw [if_pos e8, if_pos e8, s3 (Or.inl e8)]
        · by_cases e15 : so b = 15
          · rw [if_neg e8, if_neg e8, if_pos e15, if_pos e15, s3 (Or.inr e15)]
          · rw [if_neg e8, if_neg e8, if_neg e15, if_neg e15]
      | add t2 z =>
        have hd2 : dpt (Term.add t2 z) = max (dpt t2) (dpt z + 1) := rfl
        have fz := ih z (by omega) hA.1.2.1 (fun x hx => hS x (List.mem_append_left _ (List.mem_append_right _ hx)))
        cases t2 with
        | index b =>
          obtain ⟨s1, s2, s3⟩ := hs b (hS b (List.mem_append_left _ (List.mem_append_left _ (List.mem_singleton.mpr rfl))))
          rw [jd_2, jd_2, s1, fy, fz]
        | add t3 v =>
          have hd3 : dpt (Term.add t3 v) = max (dpt t3) (dpt v + 1) := rfl
          have fv := ih v (by omega) hA.1.1.2.1 (fun x hx => hS x (List.mem_append_left _ (List.mem_append_left _ (List.mem_append_right _ hx))))
          cases t3 with
          | index b =>
            obtain ⟨s1, s2, s3⟩ := hs b (hS b (List.mem_append_left _ (List.mem_append_left _ (List.mem_append_left _ (List.mem_singleton.mpr rfl)))))
            rw [jd_3, jd_3, s1, fy, fz, fv]
          | _ => rfl
        | _ => rfl
      | _ => rfl
    | _ => exact hA.elim
/-- two states with one tree, and nodes alike -/
theorem jdg_un {s w : SM} {t : Term} (h : SHW s t) (h' : SHW w t) (hn : ∀ x, x ∈ fl t → w.2 9 x = s.2 9 x ∧ w.2 10 x = s.2 10 x ∧ w.2 11 x = s.2 11 x) (hk : ∀ x, x ∈ fl t → (s.2 9 x = 8 ∨ s.2 9 x = 15) → kks w (s.2 11 x) = kks s (s.2 11 x)) : jdg w t = jdg s t := by
  unfold jdg jds
  rw [jd_cg (so := s.2 9) (nu := s.2 10) (td := s.2 11) (pa := s.2 14) (kk := kks s) (bd := bds s) (fun x => x ∈ fl t) (fun x hx => ?_) (fun x y hx => ?_) (dpt t) t (Nat.le_refl _) h.1 (fun x hx => hx)]
  · obtain ⟨a1, a2, a3⟩ := hn x hx
    exact ⟨a1, a2, fun q => by rw [a3]; exact hk x hx q⟩
  · have e : bds w x y = bds s x y := bnd_cg h h' (fun z hz => (hn z hz).1) (fun z hz _ => (hn z hz).2.1) 70 x y hx
    refine ⟨e, (bnd_mem h (nu := s.2 10) 70 x y hx).imp id (fun q => ⟨q.1, ?_⟩)⟩
    rcases q.2 with q2 | q2
    · exact Or.inl q2
    · right
      have := h.pa h' q.1 (Int.le_refl 0) (show (0 : Int) < pO (s.2 9 (bds s x y)) from by rw [show s.2 9 (bds s x y) = 10 from q2]; decide)
      rw [Int.add_zero] at this
      exact this
theorem kks_ag {s w : SM} {n : Int} (hK : KIs s) (h2 : s.1 2 ≤ w.1 2) (he : ∀ k, k < s.1 2 → w.2 4 k = s.2 4 k ∧ w.2 5 k = s.2 5 k ∧ w.2 6 k = s.2 6 k) : ∀ k, 0 ≤ k → k < s.1 2 → kks w k = kks s k := by
  have key : ∀ (q : Nat) (k : Int), 0 ≤ k → k < s.1 2 → kd (w.2 4) (w.2 5) (w.2 6) q k = kd (s.2 4) (s.2 5) (s.2 6) q k := by
    intro q
    induction q with
    | zero => intro k _ _; rfl
    | succ q ih =>
      intro k k0 k1
      obtain ⟨e1, e2, e3⟩ := he k k1
      rw [kd_s, kd_s, e1, e2, e3]
      by_cases h3 : k < 3
      · have := (hK.2.1 k k0 h3).1
        have hk : s.2 4 k = 0 ∨ s.2 4 k = 1 ∨ s.2 4 k = 2 := by omega
        rcases hk with e | e | e <;> rw [e] <;> rfl
      · obtain ⟨q1, q2, q3, q4, q5⟩ := hK.2.2 k (by omega) k1
        rw [ih _ q2.1 (by omega), ih _ q3.1 (by omega)]
  intro k k0 k1
  unfold kks
  rw [if_pos (show 0 ≤ k ∧ k < w.1 2 by omega), if_pos (show 0 ≤ k ∧ k < s.1 2 by omega)]
  exact key 40 k k0 k1
theorem jdg_x {ey ef : List Nat} {s w : SM} {t : Term} (h : SHT s t) (h' : SHT w t) (hN : NB s) (hK : KIs s) (hx : SX ey ef s w) (hy : 2 ∉ ey) (hf : (4 ∉ ef ∧ 5 ∉ ef ∧ 6 ∉ ef) ∧ 9 ∉ ef ∧ 10 ∉ ef ∧ 11 ∉ ef) : jdg w t = jdg s t := by
  have k3 := hK.1
  refine jdg_un h.w h'.w (fun x hx2 => ?_) (fun x hx2 q => ?_)
  · have := h.lt hx2
    exact ⟨hx.2 9 (by decide) hf.2.1 x (by unfold scI; omega), hx.2 10 (by decide) hf.2.2.1 x (by unfold scI; omega), hx.2 11 (by decide) hf.2.2.2 x (by unfold scI; omega)⟩
  · have := h.lt hx2
    have := (hN x this.1 this.2.1).2.2.2 q
    exact kks_ag (n := 0) hK (by rw [hx.1 2 (by decide) hy]; exact Int.le_refl _) (fun k hk => ⟨hx.2 4 (by decide) hf.1.1 k (by unfold scI; omega), hx.2 5 (by decide) hf.1.2.1 k (by unfold scI; omega), hx.2 6 (by decide) hf.1.2.2 k (by unfold scI; omega)⟩) _ this.1 this.2
end
section
/-! What may fill a hole. -/
theorem SHW_rp {s w : SM} {t u : Term} {c : Int} (h : SHT s t) (hc : c ∈ fl t) (hu : AT (w.2 9) (w.2 14) (w.2 12) (w.2 13) 3004 u) (hf : full (w.2 9) u) (hnd : (fl u).Nodup) (hdis : ∀ y, y ∈ fl u → y ∈ fl t → y ∈ fl (sq c t))
    (hs : ∀ y, y ∈ fl t → y ∉ fl (sq c t) → w.2 9 y = s.2 9 y ∧ w.2 12 y = s.2 12 y ∧ w.2 13 y = s.2 13 y ∧ ∀ i, 0 ≤ i → i < 3 → 3 * y + i ≠ 3 * s.2 12 c + s.2 13 c → w.2 14 (3 * y + i) = s.2 14 (3 * y + i))
    (hup : w.2 12 (hd u) = s.2 12 c ∧ w.2 13 (hd u) = s.2 13 c) (hpa : c ≠ hd t → w.2 14 (3 * s.2 12 c + s.2 13 c) = hd u) (htop : w.1 15 = if c = hd t then hd u else s.1 15) : SHW w (rpT c u t) := by
  obtain ⟨h1, h2, h3, h4, h5, h6, h7, h8⟩ := h
  have hnd2 : (fl (rpT c u t)).Nodup := by
    obtain ⟨a, z, e1, e2, -⟩ := rpT_fl h1 h3 hc
    rw [e2]
    rw [e1] at h3
    obtain ⟨n1, n2, n3⟩ := List.nodup_append.mp h3
    obtain ⟨n4, n5, n6⟩ := List.nodup_append.mp n2
    refine List.nodup_append.mpr ⟨n1, List.nodup_append.mpr ⟨hnd, n5, fun x hx y hy e => ?_⟩, fun x hx y hy e => ?_⟩
    · subst e
      have := hdis x hx (by rw [e1]; simp [hy])
      exact n6 x this x hy rfl
    · subst e
      rcases List.mem_append.mp hy with hy | hy
      · have := hdis x hy (by rw [e1]; simp [hx])
        exact n3 x hx x (List.mem_append_left _ this) rfl
      · exact n3 x hx x (List.mem_append_right _ hy) rfl
  by_cases e : hd t = c
  · have er : rpT c u t = u := if_pos e
    rw [er] at hnd2 ⊢
    rw [if_pos e.symm] at htop
    rw [← e, h7, h8] at hup
    exact ⟨hu, hf, hnd2, htop.symm, hup.1, hup.2⟩
  · have er : rpT c u t = rp c u t := if_neg e
    have es : sq c t = sb c t := if_neg e
    rw [es] at hs hdis
    rw [er] at hnd2 ⊢
    rw [if_neg (Ne.symm e)] at htop
    obtain ⟨q1, q2⟩ := rp_hd (x := c) (u := u) t
    obtain ⟨b1, b2, b3, b4, b5, b6⟩ := sb_ok t h1 h3 hc (Ne.symm e)
    have ht := hd_mem t h1
    have hst := hs _ ht b5
    refine ⟨AT_rp (show s.1 8 ≤ 3004 by omega) hu hf t h1 h3 hc (Ne.symm e) (fun y hy hn => ⟨(hs y hy hn).1, fun i i0 i1 _ ne => (hs y hy hn).2.2.2 i i0 (by have := pO_in (s.2 9 y); omega) ne⟩) (fun y hy hn _ => ⟨(hs y hy hn).2.1, (hs y hy hn).2.2.1⟩) (hpa (Ne.symm e)) hup.1 hup.2, ?_, hnd2, ?_, ?_, ?_⟩
    · unfold full
      rw [q1, q2, hst.1]
      exact h2
    · rw [q1, htop]; exact h6
    · rw [q1, hst.2.1]; exact h7
    · rw [q1, hst.2.2.1]; exact h8
section
variable {iv : List (Int × Int)} {L : Nat} {h0 : MH} {s : SM} {t : Term} {d : Nat}
theorem judge_gen {F : SM → Prop} (h : SHW s t) (hl : (fl t).length ≤ 64) (htd : ∀ x, x ∈ fl t → s.2 9 x = 8 ∨ s.2 9 x = 15 → 0 ≤ s.2 11 x ∧ s.2 11 x < s.1 2) (hK : KIs s) (hD : 260 ≤ d) (hF : ∀ w, JW s w t → F w) : cm iv L h0 d 86 [vr 307] s (qv F) := by
  obtain ⟨d, rfl⟩ : ∃ k, d = k + 1 := ⟨d - 1, by omega⟩
  have hdp := dpt_len t h.1
  have htop := h.2.2.2.1
  have hT : PRT (us s 3 40) t := ⟨h.1, h.2.1, h.2.2.1, htd, fun x hx => DP_up _ _ _ (by omega) (AT_DP (Int.le_refl _) t 1 h.1 (Or.inl h.2.2.2.2.1) x hx)⟩
  have hKJ : KJs (us s 3 40) := ⟨hK, Int.le_refl 40, fun k k1 k2 => by exfalso; have : k < 40 := k2; omega⟩
  have hP : PRJ (us s 3 40) (hd t) (fl t) J0 (fun _ => False) := ⟨hKJ, fun x => Or.inl (by
    show bnd (s.2 9) (s.2 10) (s.2 12) (s.2 13) 70 (hd t) x = -9
    unfold bnd
    rw [if_pos h.2.2.2.2.1]), fun x q => q.elim, fun x q => q.elim⟩
  have := jsp_all (iv := iv) (L := L) (h0 := h0) (dpt t) t (us s 3 40) (-1) none J0 (fun _ => False) (Nat.le_refl _) hT hP rfl (by show (40 : Int) + _ ≤ 6000; omega)
  rw [htop] at this
  refine B86 (wci_mono this (by omega) ?_)
  rintro r w ⟨hX, hb, hr, hj⟩
  refine hF w ⟨?_, fun k hk => ?_, hX.2.1, ?_, ?_⟩
  · exact (eqx_us (s := s) (t := s) eqx.rf (y := 3) (z := 40) (by decide)).tr (hX.1.up (fun _ q => q) (fun f q => by simp at q ⊢; omega))
  · exact hX.2.2.1.2.2 k hk
  · intro x hx
    exact hj x (Or.inr hx)
  · have : w.1 3 ≤ 40 + 41 * (fl t).length := hb
    omega
/-- the sheet with a trial in the place of the hole -/
def ofX (s : SM) (so v : Int) : SM := hlsU 3000 (pO so).toNat 0 (replU (bornU (us s 8 3000) so v 0) (s.1 16) 3000)
noncomputable def ofT (s : SM) (t : Term) (so : Int) : Term := rpT (s.1 16) (adds (pO so).toNat 3001 (.index 3000)) t
noncomputable def ofB (s : SM) (t : Term) (so v : Int) : Bool := decide ((jdg (ofX s so v) (ofT s t so)).2.2 3000 = 0)
theorem of_ok {so v : Int} (h : AFT s t) (hK : KIs s) (ho : s.2 9 (s.1 16) = 0) (hso : 0 ≤ so ∧ so < 16) : SHW (ofX s so v) (ofT s t so) ∧ (fl (ofT s t so)).length ≤ 63 ∧ (3000 : Int) ∈ fl (ofT s t so) ∧ (∀ y, y ∈ fl (ofT s t so) → y ∈ fl t ∨ (3000 ≤ y ∧ y < 3004)) ∧ (∀ y, y < 3000 → (ofX s so v).2 9 y = s.2 9 y ∧ (ofX s so v).2 10 y = s.2 10 y ∧ (ofX s so v).2 11 y = s.2 11 y) ∧ ((ofX s so v).2 9 3000 = so ∧ (ofX s so v).2 10 3000 = nvl so v ∧ (ofX s so v).2 11 3000 = kvl so 0) ∧ (∀ y, 3001 ≤ y → y < 3001 + pO so → (ofX s so v).2 9 y = 0 ∧ (ofX s so v).2 10 y = -9 ∧ (ofX s so v).2 11 y = -9) ∧ (∀ y, y ∈ fl (ofT s t so) → y < 3001 + pO so) ∧ (∀ y, y < 3000 → (ofX s so v).2 12 y = s.2 12 y ∧ (ofX s so v).2 13 y = s.2 13 y ∧ ∀ i, 0 ≤ i → i < 3 → 3 * y + i ≠ 3 * s.2 12 (s.1 16) + s.2 13 (s.1 16) → (ofX s so v).2 14 (3 * y + i) = s.2 14 (3 * y + i)) ∧ (ofX s so v).2 12 3000 = s.2 12 (s.1 16) ∧ (ofX s so v).2 13 3000 = s.2 13 (s.1 16) ∧ eqx [8, 15] [9, 10, 11, 12, 13, 14] s (ofX s so v) ∧ ((ofX s so v).1 15 = if s.1 16 = hd t then 3000 else s.1 15) ∧ (s.2 12 (s.1 16) = -9 → ∀ j, (ofX s so v).2 14 j = s.2 14 j ∨ 9000 ≤ j) := by
  obtain ⟨h1, h2, h3⟩ := h
  have hpo := pO_in so
  have hll := h1.2.2.2.1
  have hB := h1.2.2.2.2.1
  have hct := h1.lt h3
  -- as if 3000 births were done
  have hS : SHT (us s 8 3000) t := ⟨AT_B (by show s.1 8 ≤ 3000; omega) t h1.1, h1.2.1, h1.2.2.1, hll, by show (0 : Int) ≤ 3000 ∧ (3000 : Int) ≤ 3000; decide, h1.2.2.2.2.2.1, h1.2.2.2.2.2.2.1, h1.2.2.2.2.2.2.2⟩
  obtain ⟨n1, n2, n3, n4, n5, n6, n7⟩ := new_in (so := so) (v := v) (k := 0) hS h3 hso
  have n1 : ATs (replU (bornU (us s 8 3000) so v 0) (s.1 16) 3000) (.index 3000) := n1
  have n2 : (replU (bornU (us s 8 3000) so v 0) (s.1 16) 3000).1 8 = 3001 := n2
  obtain ⟨q1, q2, q3, q4, q5, q6, q7⟩ := hlsU_ok (b := 3000) (pO so).toNat 0 (replU (bornU (us s 8 3000) so v 0) (s.1 16) 3000) (.index 3000) n1 (by simp [fl]) rfl rfl (by rw [show (replU (bornU (us s 8 3000) so v 0) (s.1 16) 3000).2 9 3000 = so from n3.1]; omega) (by omega)
  rw [n2] at q1 q2 q3 q4 q7
  have ah := adds_hd (pO so).toNat 3001 (.index 3000)
  have ah1 : hd (adds (pO so).toNat 3001 (.index 3000)) = 3000 := ah.1
  have hl := len_rp h1 h3 (adds (pO so).toNat 3001 (.index 3000))
  rw [adds_len] at hl
  have hsp := sq_pos h1 h3
  have f1 : (fl (Term.index 3000)).length = 1 := rfl
  have mem : ∀ y, y ∈ fl (adds (pO so).toNat 3001 (.index 3000)) → 3000 ≤ y ∧ y < 3001 + pO so := fun y hy => by
    rcases adds_mem hy with q | q
    · have : y = ((3000 : Nat) : Int) := List.mem_singleton.mp q
      omega
    · omega
  have memT : ∀ y, y ∈ fl (ofT s t so) → y ∈ fl t ∨ (3000 ≤ y ∧ y < 3001 + pO so) := fun y hy => by
    obtain ⟨a, z, e1, e2, -⟩ := rpT_fl h1.1 h1.2.2.1 h3
    unfold ofT at hy
    rw [e2] at hy
    rw [e1]
    rcases List.mem_append.mp hy with q | q
    · left; simp [q]
    · rcases List.mem_append.mp q with q | q
      · right; exact mem y q
      · left; simp [q]
  have old : ∀ y, y < 3000 → (ofX s so v).2 9 y = s.2 9 y ∧ (ofX s so v).2 10 y = s.2 10 y ∧ (ofX s so v).2 11 y = s.2 11 y := fun y y1 => by
    obtain ⟨⟨c1, c2, c3⟩, -⟩ := q4 y ⟨by omega, by omega⟩
    obtain ⟨⟨d1, d2, d3⟩, -⟩ := n4 y y1
    exact ⟨c1.trans d1, c2.trans d2, c3.trans d3⟩
  have lnk : ∀ y, y < 3000 → (ofX s so v).2 12 y = s.2 12 y ∧ (ofX s so v).2 13 y = s.2 13 y ∧ ∀ i, 0 ≤ i → i < 3 → 3 * y + i ≠ 3 * s.2 12 (s.1 16) + s.2 13 (s.1 16) → (ofX s so v).2 14 (3 * y + i) = s.2 14 (3 * y + i) := fun y y1 => by
    obtain ⟨-, ⟨c4, c5⟩, c6⟩ := q4 y ⟨by omega, by omega⟩
    obtain ⟨-, ⟨d4, d5⟩, d6⟩ := n4 y y1
    exact ⟨c4.trans d4, c5.trans d5, fun i i0 i3 hi => (c6 i i0 i3).trans (d6 i hi)⟩
  have u12 : (ofX s so v).2 12 3000 = s.2 12 (s.1 16) := q6.2.2.2.1.trans n5.1
  have u13 : (ofX s so v).2 13 3000 = s.2 13 (s.1 16) := q6.2.2.2.2.trans n5.2
  have x15 : (ofX s so v).1 15 = if s.1 16 = hd t then 3000 else s.1 15 := (q5.1 15 (by decide)).trans n7
  refine ⟨SHW_rp (w := ofX s so v) h1 h3 (AT_B (by show (ofX s so v).1 8 ≤ 3004; show (hlsU 3000 _ 0 _).1 8 ≤ 3004; omega) _ q1) ?_ q2 (fun y hy hyt => ?_) (fun y hy hyn => ?_) ?_ (fun q => ?_) ?_, ?_, ?_, fun y hy => ?_, old, ⟨q6.1.trans n3.1, q6.2.1.trans n3.2.1, q6.2.2.1.trans n3.2.2⟩, fun y y0 y1 => q7 y y0 (by omega), fun y hy => ?_, lnk, u12, u13, ?_, x15, fun q j => ?_⟩
  · show na (adds _ 3001 (.index 3000)) = pO ((ofX s so v).2 9 (hd (adds _ 3001 (.index 3000))))
    rw [ah.2, ah1]
    have : (ofX s so v).2 9 3000 = so := q6.1.trans n3.1
    rw [this]
    show (0 : Int) + _ = _
    omega
  · have := mem y hy
    have := h1.lt hyt
    omega
  · have hy2 := h1.lt hy
    have l := lnk y hy2.2.2
    exact ⟨(old y hy2.2.2).1, l.1, l.2.1, l.2.2⟩
  · rw [ah1]; exact ⟨u12, u13⟩
  · rw [ah1]
    obtain ⟨u1, u2, u3⟩ := (AT_mem t h1.1 _ h3).2.2.2 q
    have ul := h1.lt u1
    have := pO_in (s.2 9 (s.2 12 (s.1 16)))
    exact ((q4 (s.2 12 (s.1 16)) ⟨by omega, by omega⟩).2.2 _ u2.1 (by omega)).trans (n6 q)
  · rw [ah1]; exact x15
  · show (fl (rpT _ _ _)).length ≤ 63
    omega
  · refine hl.2 _ ?_
    have := hd_mem _ q1
    rw [show hd (adds (pO so).toNat (3001 : Int).toNat (.index 3000)) = 3000 from ah1] at this
    exact this
  · exact (memT y hy).imp id (fun q => by omega)
  · rcases memT y hy with q | q
    · have := h1.lt q; omega
    · exact q.2
  · exact ((eqx_us (s := s) (t := s) eqx.rf (y := 8) (z := 3000) (ys := [8, 15]) (fs := [9, 10, 11, 12, 13, 14]) (by decide)).tr ((bornU_e.up (fun y q => by simp at q ⊢; omega) (fun y q => by simp at q ⊢; omega)).tr (replU_e.up (fun y q => by simp at q ⊢; omega) (fun y q => by simp at q ⊢; omega)))).tr (q5.up (fun y q => by simp at q ⊢; omega) (fun y q => q))
  · by_cases hj : j < 9000
    · left
      have n8 := n2
      have := (q4 (j / 3) ⟨by omega, by omega⟩).2.2 (j % 3) (by omega) (by omega)
      rw [show 3 * (j / 3) + j % 3 = j by omega] at this
      show (hlsU 3000 (pO so).toNat 0 (replU (bornU (us s 8 3000) so v 0) (s.1 16) 3000)).2 14 j = s.2 14 j
      rw [this]
      unfold replU
      rw [show (bornU (us s 8 3000) so v 0).2 12 (s.1 16) = -9 from by rw [bornU_e.2 12 (by decide)]; exact q, if_pos rfl]
      simp only [ua_2, us_2]
      rw [if_neg (by omega), if_neg (by omega), bornU_e.2 14 (by decide)]
      rfl
    · right; omega
theorem of_td {so v : Int} (h : AFT s t) (hK : KIs s) (ho : s.2 9 (s.1 16) = 0) (hso : 0 ≤ so ∧ so < 16) : ∀ x, x ∈ fl (ofT s t so) → (ofX s so v).2 9 x = 8 ∨ (ofX s so v).2 9 x = 15 → 0 ≤ (ofX s so v).2 11 x ∧ (ofX s so v).2 11 x < s.1 2 := fun x hx q => by
  obtain ⟨o1, o2, o3, o4, o5, o6, o7, o8, o9, o10, o11, o12, o13, o14⟩ := of_ok (v := v) h hK ho hso
  have k3 := hK.1
  rcases o4 x hx with e | e
  · have hl := h.1.lt e
    obtain ⟨e1, e2, e3⟩ := o5 x hl.2.2
    rw [e1] at q
    rw [e3]
    exact (h.2.1 x hl.1 hl.2.1).2.2.2 q
  · by_cases e3 : x = 3000
    · subst e3
      rw [o6.1] at q
      rw [o6.2.2]
      unfold kvl
      rw [if_pos q]
      omega
    · have := o7 x (by omega) (o8 x hx)
      omega
/-- what is made of a trial hangs on the sheet alone -/
theorem ofB_x {w : SM} {so v : Int} (h : AFT s t) (hK : KIs s) (ho : s.2 9 (s.1 16) = 0) (hx : SX [] [] s w) (hso : 0 ≤ so ∧ so < 16) : ofB w t so v = ofB s t so v := by
  have h8 := h.1.2.2.2.2.1.2
  have hw := h.x hx (by decide) (by decide)
  have hKw := KI_x hK hx (by decide) (by decide)
  have e16 : w.1 16 = s.1 16 := hx.1 16 (by decide) (by decide)
  have hcl := h.1.lt h.2.2
  have how : w.2 9 (w.1 16) = 0 := by rw [e16, hx.2 9 (by decide) (by decide) _ (by unfold scI; omega)]; exact ho
  obtain ⟨o1, o2, o3, o4, o5, o6, o7, o8, o9, o10, o11, o12, o13, o14⟩ := of_ok (v := v) h hK ho hso
  obtain ⟨p1, p2, p3, p4, p5, p6, p7, p8, p9, p10, p11, p12, p13, p14⟩ := of_ok (v := v) hw hKw how hso
  have eT : ofT w t so = ofT s t so := by unfold ofT; rw [e16]
  rw [eT] at p1
  have k3 := hK.1
  unfold ofB
  rw [eT, jdg_un o1 p1 (fun x hx2 => ?_) (fun x hx2 q => ?_)]
  · rcases o4 x hx2 with e | e
    · have hl := h.1.lt e
      obtain ⟨a1, a2, a3⟩ := o5 x hl.2.2
      obtain ⟨b1, b2, b3⟩ := p5 x hl.2.2
      rw [a1, a2, a3, b1, b2, b3]
      exact ⟨hx.2 9 (by decide) (by decide) x (by unfold scI; omega), hx.2 10 (by decide) (by decide) x (by unfold scI; omega), hx.2 11 (by decide) (by decide) x (by unfold scI; omega)⟩
    · by_cases e3 : x = 3000
      · subst e3
        rw [o6.1, o6.2.1, o6.2.2, p6.1, p6.2.1, p6.2.2]
        exact ⟨rfl, rfl, rfl⟩
      · obtain ⟨a1, a2, a3⟩ := o7 x (by omega) (o8 x hx2)
        obtain ⟨b1, b2, b3⟩ := p7 x (by omega) (o8 x hx2)
        rw [a1, a2, a3, b1, b2, b3]
        exact ⟨rfl, rfl, rfl⟩
  · have htd := of_td (v := v) h hK ho hso x hx2 q
    have kX : ∀ (u : SM), eqx [8, 15] [9, 10, 11, 12, 13, 14] u (ofX u so v) → kks (ofX u so v) = kks u := fun u hu => by
      funext k
      show (if 0 ≤ k ∧ k < (ofX u so v).1 2 then kt ((ofX u so v).2 4) ((ofX u so v).2 5) ((ofX u so v).2 6) k else Term.null) = _
      rw [hu.1 2 (by decide), hu.2 4 (by decide), hu.2 5 (by decide), hu.2 6 (by decide)]
      rfl
    rw [kX w p12, kX s o12]
    exact kks_ag (n := 0) hK (by rw [hx.1 2 (by decide) (by decide)]; exact Int.le_refl _) (fun k hk => ⟨hx.2 4 (by decide) (by decide) k (by unfold scI; omega), hx.2 5 (by decide) (by decide) k (by unfold scI; omega), hx.2 6 (by decide) (by decide) k (by unfold scI; omega)⟩) _ htd.1 htd.2
/-- rows alike, numbers too but for births -/
def E8 (x y : SM) : Prop := y.2 = x.2 ∧ ∀ k, k ≠ 8 → y.1 k = x.1 k
theorem isOffered_ok {so v : Int} {F : Int → SM → Prop} (h : AFT s t) (hK : KIs s) (ho : s.2 9 (s.1 16) = 0) (hso : 0 ≤ so ∧ so < 16) (hD : 300 ≤ d) (hF : ∀ w, SX [] [] s w → eqx [3, 15] [4, 5, 6, 7, 9, 10, 11, 12, 13, 14, 19, 20, 21] s w → F (if ofB s t so v then 1 else 0) w) : cm iv L h0 d 116 [vr 307, vi so, vi v] s (qi F) := by
  obtain ⟨d, rfl⟩ : ∃ k, d = k + 2 := ⟨d - 2, by omega⟩
  obtain ⟨o1, o2, o3, o4, o5, o6, o7, o8, o9, o10, o11, o12, o13, o14⟩ := of_ok (v := v) h hK ho hso
  have otd := of_td (v := v) h hK ho hso
  obtain ⟨h1, h2, h3⟩ := h
  have hct := h1.lt h3
  have h8 := h1.2.2.2.2.1
  have hpo := pO_in so
  have hup := up_in h1 h3
  -- the end
  have fin : ∀ y, E8 (ofX s so v) y → y.1 8 = s.1 8 → wm iv L h0 (d + 1 + 1) 116 26 [lr 307, li so, ln, li (s.1 16), li (pO so)] [] y (qi F) := fun y hy y8 => by
    obtain ⟨y2, y1⟩ := hy
    have yS : SHW y (ofT s t so) := by
      unfold SHW at o1 ⊢
      rw [y2, y1 15 (by decide)]
      exact o1
    have yK : KIs y := by
      show KI (y.1 2) (y.2 4) (y.2 5) (y.2 6) (y.2 7)
      rw [y2, y1 2 (by decide), o12.1 2 (by decide), o12.2 4 (by decide), o12.2 5 (by decide), o12.2 6 (by decide), o12.2 7 (by decide)]
      exact hK
    refine B116_26 ⟨by omega, fun _ => judge_gen yS (by omega) (fun x hx q => ?_) yK (by omega) (fun w hw => ?_), fun q => by omega⟩
    · rw [y2] at q ⊢
      rw [y1 2 (by decide), o12.1 2 (by decide)]
      exact otd x hx q
    · have eJ : jdg y (ofT s t so) = jdg (ofX s so v) (ofT s t so) := by
        unfold jdg
        rw [jds_e (by rw [y2]) (by rw [y2]) (by rw [y2]) (by rw [y2]) (by rw [y2]) (by rw [y2]) (y1 2 (by decide)) (fun k _ _ => by
          show kt (y.2 4) (y.2 5) (y.2 6) k = _
          rw [y2])]
      have e21 := (hw.2.2.2.1 3000 o3).2.2.1
      rw [eJ] at e21
      have w12 : w.2 12 = (ofX s so v).2 12 := (hw.1.2 12 (by decide)).trans (by rw [y2])
      have w13 : w.2 13 = (ofX s so v).2 13 := (hw.1.2 13 (by decide)).trans (by rw [y2])
      have w14 : w.2 14 = (ofX s so v).2 14 := (hw.1.2 14 (by decide)).trans (by rw [y2])
      have wr : ∀ f, f ≠ 4 ∧ f ≠ 5 ∧ f ≠ 6 ∧ f ≠ 7 ∧ f ≠ 19 ∧ f ≠ 20 ∧ f ≠ 21 → w.2 f = (ofX s so v).2 f := fun f hf => (hw.1.2 f (by simp; omega)).trans (by rw [y2])
      have wn : ∀ k, k ≠ 3 → k ≠ 8 → w.1 k = (ofX s so v).1 k := fun k k3 k8 => (hw.1.1 k (by simp; omega)).trans (y1 k k8)
      have rep : ∀ z : Int, z = (if ofB s t so v then 1 else 0) → cm iv L h0 (d + 1) 77 [vr 307, vi 3000, vi (s.1 16)] w (qv fun s3 => F z s3) := fun z hz => by
        refine replace_ok (by decide) (by rw [w12, w13, o10, o11]; exact hup) (by omega) ?_
        rw [hz]
        have e12 : w.2 12 3000 = s.2 12 (s.1 16) := by rw [w12]; exact o10
        have e13 : w.2 13 3000 = s.2 13 (s.1 16) := by rw [w13]; exact o11
        have Re : eqx [15] [12, 13, 14] w (replU w 3000 (s.1 16)) := replU_e
        have hub : s.1 16 ≠ hd t → 3 * s.2 12 (s.1 16) + s.2 13 (s.1 16) < 9000 ∧ s.2 14 (3 * s.2 12 (s.1 16) + s.2 13 (s.1 16)) = s.1 16 ∧ s.2 12 (s.1 16) ≠ -9 := fun q => by
          obtain ⟨u1, u2, u3⟩ := (AT_mem t h1.1 _ h3).2.2.2 q
          have := h1.lt u1
          have := pO_in (s.2 9 (s.2 12 (s.1 16)))
          exact ⟨by omega, u3, by omega⟩
        have r15 : (replU w 3000 (s.1 16)).1 15 = s.1 15 := by
          unfold replU
          rw [e12]
          by_cases q : s.1 16 = hd t
          · rw [if_pos (by rw [q]; exact h1.2.2.2.2.2.2.1)]
            show s.1 16 = s.1 15
            rw [q]; exact h1.2.2.2.2.2.1
          · rw [if_neg (hub q).2.2]
            show w.1 15 = _
            rw [wn 15 (by decide) (by decide), o13, if_neg q]
        have r1213 : ∀ x, x < 3000 → (replU w 3000 (s.1 16)).2 12 x = s.2 12 x ∧ (replU w 3000 (s.1 16)).2 13 x = s.2 13 x := fun x hx => by
          have b1 : (ofX s so v).2 12 x = s.2 12 x := (o9 x hx).1
          have b2 : (ofX s so v).2 13 x = s.2 13 x := (o9 x hx).2.1
          unfold replU
          rw [e12, e13]
          by_cases q : s.2 12 (s.1 16) = -9
          · rw [if_pos q]
            by_cases q2 : x = s.1 16
            · subst q2
              have q3 : s.1 16 = hd t := Classical.byContradiction fun q4 => (hub q4).2.2 q
              have q5 : s.2 13 (s.1 16) = -9 := by rw [q3]; exact h1.2.2.2.2.2.2.2
              simp [ua_2, us_2, q, q5]
            · simp only [ua_2, us_2]
              rw [if_neg (by omega), if_neg (by omega), if_neg (by omega), if_neg (by omega), w12, w13]
              exact ⟨b1, b2⟩
          · rw [if_neg q]
            by_cases q2 : x = s.1 16
            · subst q2
              simp [partU, ua_2]
            · simp only [partU, ua_2]
              rw [if_neg (by omega), if_neg (by omega), if_neg (by omega), if_neg (by omega), if_neg (by omega), if_neg (by omega), w12, w13]
              exact ⟨b1, b2⟩
        have r14 : ∀ j, j < 9000 → (replU w 3000 (s.1 16)).2 14 j = s.2 14 j := fun j hj => by
          have b : j ≠ 3 * s.2 12 (s.1 16) + s.2 13 (s.1 16) → (ofX s so v).2 14 j = s.2 14 j := fun hne => by
            have := (o9 (j / 3) (by omega)).2.2 (j % 3) (by omega) (by omega)
            rw [show 3 * (j / 3) + j % 3 = j by omega] at this
            exact this hne
          have b2 : s.2 12 (s.1 16) = -9 → (ofX s so v).2 14 j = s.2 14 j := fun q => (o14 q j).resolve_right (by omega)
          unfold replU
          rw [e12, e13]
          by_cases q : s.2 12 (s.1 16) = -9
          · rw [if_pos q]
            simp only [ua_2, us_2]
            rw [if_neg (by omega), if_neg (by omega), w14]
            exact b2 q
          · have q3 : s.1 16 ≠ hd t := fun q4 => q (by rw [q4]; exact h1.2.2.2.2.2.2.1)
            rw [if_neg q]
            simp only [partU, ua_2]
            rw [if_neg (by omega), if_neg (by omega)]
            by_cases q2 : j = 3 * s.2 12 (s.1 16) + s.2 13 (s.1 16)
            · rw [if_pos ⟨trivial, q2⟩, q2]
              exact (hub q3).2.1.symm
            · rw [if_neg (by omega), w14]
              exact b q2
        refine hF _ ⟨fun k a1 _ => ?_, fun f a1 _ i a3 => ?_⟩ ?_
        · by_cases e : k = 15
          · subst e; exact r15
          · rw [Re.1 k (by simp; omega)]
            by_cases e2 : k = 8
            · subst e2
              rw [hw.1.1 8 (by decide), y8]
            · rw [wn k (by intro q; subst q; exact a1 (by decide)) e2, o12.1 k (by simp; omega)]
        · by_cases e : f = 12 ∨ f = 13
          · have hi : i < 3000 := by unfold scI at a3; omega
            rcases e with rfl | rfl
            · exact (r1213 i hi).1
            · exact (r1213 i hi).2
          · by_cases e2 : f = 14
            · subst e2
              exact r14 i (by unfold scI at a3; omega)
            · rw [Re.2 f (by simp; omega)]
              by_cases e3 : f = 4 ∨ f = 5 ∨ f = 6 ∨ f = 7
              · have hi : i < 40 := by unfold scI at a3; omega
                obtain ⟨m1, m2, m3, m4⟩ := hw.2.1 i hi
                rcases e3 with rfl | rfl | rfl | rfl
                · rw [m1, y2, o12.2 4 (by decide)]
                · rw [m2, y2, o12.2 5 (by decide)]
                · rw [m3, y2, o12.2 6 (by decide)]
                · rw [m4, y2, o12.2 7 (by decide)]
              · have e4 : f ≠ 19 ∧ f ≠ 20 ∧ f ≠ 21 := by simp [scR] at a1; omega
                rw [wr f (by omega)]
                by_cases e5 : f = 9 ∨ f = 10 ∨ f = 11
                · have hi : i < 3000 := by unfold scI at a3; omega
                  obtain ⟨m1, m2, m3⟩ := o5 i hi
                  rcases e5 with rfl | rfl | rfl <;> assumption
                · rw [o12.2 f (by simp; omega)]
        · refine ⟨fun k hk => ?_, fun f hf => ?_⟩
          · simp at hk
            rw [Re.1 k (by simp; omega)]
            by_cases e2 : k = 8
            · subst e2
              rw [hw.1.1 8 (by decide), y8]
            · rw [wn k hk.1 e2, o12.1 k (by simp; omega)]
          · simp at hf
            rw [Re.2 f (by simp; omega), wr f (by omega), o12.2 f (by simp; omega)]
      refine ⟨fun q => rep 0 ?_, fun q => rep 1 ?_⟩
      · have : ofB s t so v = false := by unfold ofB; rw [← e21]; exact decide_eq_false q
        rw [this]; rfl
      · have : ofB s t so v = true := by unfold ofB; rw [← e21]; exact decide_eq_true q
        rw [this]; rfl
  -- the trial's parts
  have lp : ∀ (m : Nat) (i : Int) (x y : SM), 0 ≤ i → i + m = pO so → E8 x y → x.1 8 = 3001 + i → y.1 8 = s.1 8 → hlsU 3000 m i x = ofX s so v → wm iv L h0 (d + 1 + 1) 116 26 [lr 307, li so, ln, li (s.1 16), li i] [] y (qi F) := by
    intro m
    induction m with
    | zero =>
      intro i x y i0 hi hE hx8 hy8 hU
      obtain rfl : i = pO so := by omega
      exact fin y (by rw [← hU]; exact hE) hy8
    | succ m ih =>
      intro i x y i0 hi hE hx8 hy8 hU
      refine B116_26 ⟨by omega, fun q => by omega, fun _ => ⟨by omega, set_ok (by omega) (setPart_ok (by decide) (by omega) (by omega) ⟨by omega, ih (i + 1) (hlU 3000 i x) _ (by omega) (by omega) ⟨?_, fun k hk => ?_⟩ (by rw [hlU_8]; omega) hy8 hU⟩)⟩⟩
      · show (partU (setU y (3001 + i) 0 (-9) (-9)) 3000 i (3001 + i)).2 = (partU (setU (us x 8 (x.1 8 + 1)) (x.1 8) 0 (-9) (-9)) 3000 i (x.1 8)).2
        rw [hx8]
        have := hE.1
        simp only [partU, setU, ua, us, this]
      · have := hE.2 k hk
        rw [hlU_e.1 k (by simp; exact hk)]
        exact this
  refine B116 (set_ok (by decide) (replace_ok (by omega) (by rw [show (setU s 3000 so v 0).2 12 (s.1 16) = s.2 12 (s.1 16) from by simp [setU, ua_2], show (setU s 3000 so v 0).2 13 (s.1 16) = s.2 13 (s.1 16) from by simp [setU, ua_2]]; exact hup) (by decide) ?_))
  refine lp (pO so).toNat 0 (replU (bornU (us s 8 3000) so v 0) (s.1 16) 3000) _ (by omega) (by omega) ⟨?_, fun k hk => ?_⟩ ?_ ?_ rfl
  · have e1 : (bornU (us s 8 3000) so v 0).2 = (setU s 3000 so v 0).2 := rfl
    unfold replU
    rw [e1]
    split
    · rfl
    · rfl
  · have e1 : (bornU (us s 8 3000) so v 0).2 = (setU s 3000 so v 0).2 := rfl
    unfold replU
    rw [e1]
    have e2 : (bornU (us s 8 3000) so v 0).1 k = s.1 k := by
      show (us (us s 8 3000) 8 ((us s 8 3000).1 8 + 1)).1 k = s.1 k
      rw [us_1, if_neg hk, us_1, if_neg hk]
    split
    · show (if k = 15 then (3000 : Int) else s.1 k) = if k = 15 then 3000 else (bornU (us s 8 3000) so v 0).1 k
      rw [e2]
    · exact e2.symm
  · rw [replU_e.1 8 (by decide)]
    show (3000 : Int) + 1 = 3001 + 0
    decide
  · rw [replU_e.1 8 (by decide)]
    rfl
end
end
section
/-! offers(), offer(). -/
noncomputable def ofN (s : SM) (t : Term) : Nat → Int → List (Int × Int)
  | 0, _ => []
  | m + 1, x => (if bds s (s.1 16) x ≠ -9 ∧ ofB s t 3 x = true then [(3, x)] else []) ++ ofN s t m (x + 1)
noncomputable def ofO (s : SM) (t : Term) (so : Int) : List (Int × Int) := if ofB s t so 0 = true then [(so, -9)] else []
noncomputable def ofS (s : SM) (t : Term) : Nat → Int → List (Int × Int)
  | 0, _ => []
  | m + 1, so => ofO s t so ++ ofS s t m (so + 1)
/-- all offers -/
noncomputable def ofL (s : SM) (t : Term) : List (Int × Int) := ofN s t 26 0 ++ (ofO s t 1 ++ (ofO s t 2 ++ ofS s t 12 4))
theorem ofN_len (s : SM) (t : Term) : ∀ (m : Nat) (x : Int), (ofN s t m x).length ≤ m := by
  intro m
  induction m with
  | zero => intro x; exact Nat.le_refl 0
  | succ m ih =>
    intro x
    have := ih (x + 1)
    unfold ofN
    split <;> simp <;> omega
theorem ofO_len (s : SM) (t : Term) (so : Int) : (ofO s t so).length ≤ 1 := by
  unfold ofO
  split <;> simp
theorem ofS_len (s : SM) (t : Term) : ∀ (m : Nat) (x : Int), (ofS s t m x).length ≤ m := by
  intro m
  induction m with
  | zero => intro x; exact Nat.le_refl 0
  | succ m ih =>
    intro x
    have := ih (x + 1)
    have := ofO_len s t x
    show (ofO s t x ++ ofS s t m (x + 1)).length ≤ m + 1
    rw [List.length_append]
    omega
/-- the offers found so far -/
def OL (w : SM) (O : List (Int × Int)) : Prop := w.1 45 = O.length ∧ ∀ (j : Nat) (a : Int × Int), O[j]? = some a → w.2 43 j = a.1 ∧ w.2 44 j = a.2
theorem OL_add {w : SM} {O : List (Int × Int)} {a b : Int} (h : OL w O) : OL (us (ua (ua w 43 (w.1 45) a) 44 (w.1 45) b) 45 (w.1 45 + 1)) (O ++ [(a, b)]) := by
  obtain ⟨h1, h2⟩ := h
  refine ⟨?_, fun j c hj => ?_⟩
  · show w.1 45 + 1 = _
    rw [h1]; simp
  · simp only [us_2, ua_2]
    by_cases hjl : j < O.length
    · rw [List.getElem?_append_left hjl] at hj
      rw [if_neg (by omega), if_neg (by omega), if_neg (by omega), if_neg (by omega)]
      exact h2 j c hj
    · rw [List.getElem?_append_right (by omega)] at hj
      have hj0 : j = O.length := by
        have := (List.getElem?_eq_some_iff.mp hj).1
        simp at this
        omega
      subst hj0
      simp at hj
      subst hj
      rw [h1]
      simp
section
variable {iv : List (Int × Int)} {L : Nat} {h0 : MH} {s : SM} {t : Term} {d : Nat}
/-- one offer, wherever the others stand -/
theorem offer_ok {so v nm : Int} {F : SM → Prop} {O : List (Int × Int)} {x : SM} (h : AFT s t) (hK : KIs s) (ho : s.2 9 (s.1 16) = 0) (hso : 0 ≤ so ∧ so < 16) (hD : 301 ≤ d) (hx : SX [] [] s x) (hO : OL x O) (hl : O.length < 64) (hF : ∀ w, SX [] [] s w → OL w (O ++ if ofB s t so v = true then [(so, if nm = 0 then -9 else v)] else []) → F w) : cm iv L h0 d 117 [vr 307, vi so, vi v, vi nm] x (qv F) := by
  obtain ⟨d, rfl⟩ : ∃ k, d = k + 1 := ⟨d - 1, by omega⟩
  have e16 : x.1 16 = s.1 16 := hx.1 16 (by decide) (by decide)
  have hcl := h.1.lt h.2.2
  have hox : x.2 9 (x.1 16) = 0 := by rw [e16, hx.2 9 (by decide) (by decide) _ (by unfold scI; omega)]; exact ho
  refine B117 (isOffered_ok (h.x hx (by decide) (by decide)) (KI_x hK hx (by decide) (by decide)) hox hso (by omega) (fun w w1 w2 => ?_))
  rw [ofB_x h hK ho hx hso]
  have ws : SX [] [] s w := hx.tr w1
  have wO : OL w O := ⟨(w2.1 45 (by decide)).trans hO.1, fun j a hj => by rw [w2.2 43 (by decide), w2.2 44 (by decide)]; exact hO.2 j a hj⟩
  have w45 := wO.1
  cases hb : ofB s t so v with
  | false =>
    refine ⟨fun _ => hF w ws ?_, fun q => absurd rfl q⟩
    rw [hb, if_neg (by decide), List.append_nil]
    exact wO
  | true =>
    rw [hb, if_pos rfl] at hF
    have sx : ∀ b, SX [] [] s (us (ua (ua w 43 (w.1 45) so) 44 (w.1 45) b) 45 (w.1 45 + 1)) := fun b => ws.tr (SX.eq (eqx_us (eqx_ua (eqx_ua eqx.rf (ys := [45]) (fs := [43, 44]) (by decide)) (by decide)) (by decide)) (by decide) (by decide))
    refine ⟨fun q => absurd q (by decide), fun _ => ⟨by omega, fun e => ⟨by omega, hF _ (sx _) ?_⟩, fun e => ⟨by omega, hF _ (sx _) ?_⟩⟩⟩
    · rw [if_pos e]; exact OL_add wO
    · rw [if_neg e]; exact OL_add wO
theorem findOffers_ok {F : SM → Prop} (h : AFT s t) (hK : KIs s) (ho : s.2 9 (s.1 16) = 0) (hD : 310 ≤ d) (hF : ∀ w, SX [] [] s w → OL w (ofL s t) → F w) : cm iv L h0 d 118 [vr 307] s (qv F) := by
  obtain ⟨d, rfl⟩ : ∃ k, d = k + 1 := ⟨d - 1, by omega⟩
  have hcl := h.1.lt h.2.2
  have hDP := DP_up 61 70 _ (by decide) (DP_tree h.1 _ h.2.2)
  have bnds : ∀ x, SX [] [] s x → ∀ l, bnd (x.2 9) (x.2 10) (x.2 12) (x.2 13) 70 (x.1 16) l = bds s (s.1 16) l := fun x hx l => by
    have hxT := h.x hx (by decide) (by decide)
    rw [hx.1 16 (by decide) (by decide)]
    exact bnd_cg h.1.w hxT.1.w (fun z hz => hx.2 9 (by decide) (by decide) z (by have := h.1.lt hz; unfold scI; omega)) (fun z hz _ => hx.2 10 (by decide) (by decide) z (by have := h.1.lt hz; unfold scI; omega)) 70 _ l h.2.2
  have DPx : ∀ x, SX [] [] s x → DP (x.2 12) 70 (x.1 16) := fun x hx => by
    have hxT := h.x hx (by decide) (by decide)
    exact DP_up 61 70 _ (by decide) (DP_tree hxT.1 _ hxT.2.2)
  -- the last loop
  have l3 : ∀ (m : Nat) (so : Int) (x : SM) (O : List (Int × Int)), 4 ≤ so → so + m = 16 → SX [] [] s x → OL x O → O.length + m ≤ 60 → O ++ ofS s t m so = ofL s t → wm iv L h0 (d + 1) 118 56 [lr 307, li so] [] x (qv F) := by
    intro m
    induction m with
    | zero =>
      intro so x O s4 hm hx hO hl he
      rw [show ofS s t 0 so = [] from rfl, List.append_nil] at he
      exact B118_56 ⟨fun _ => hF x hx (by rw [← he]; exact hO), fun q => by omega⟩
    | succ m ih =>
      intro so x O s4 hm hx hO hl he
      refine B118_56 ⟨fun q => by omega, fun _ => offer_ok h hK ho (by omega) (by omega) hx hO (by omega) (fun w w1 w2 => ⟨by omega, ih (so + 1) w _ (by omega) (by omega) w1 w2 ?_ ?_⟩)⟩
      · have : (if ofB s t so 0 = true then [(so, if (0 : Int) = 0 then -9 else 0)] else []).length ≤ 1 := by split <;> simp
        rw [List.length_append]
        omega
      · rw [← he, List.append_assoc]
        rfl
  have l1 : ∀ (m : Nat) (l : Int) (x : SM) (O : List (Int × Int)), 0 ≤ l → l + m = 26 → SX [] [] s x → OL x O → O.length + m ≤ 26 → O ++ ofN s t m l = ofN s t 26 0 → wm iv L h0 (d + 1) 118 7 [lr 307, li l] [] x (qv F) := by
    intro m
    induction m with
    | zero =>
      intro l x O s4 hm hx hO hl he
      rw [show ofN s t 0 l = [] from rfl, List.append_nil] at he
      refine B118_7 ⟨fun _ => offer_ok h hK ho (by decide) (by omega) hx hO (by omega) (fun w w1 w2 => offer_ok h hK ho (by decide) (by omega) w1 w2 ?_ (fun v v1 v2 => l3 12 4 v _ (by decide) (by decide) v1 v2 ?_ ?_)), fun q => by omega⟩
      · have : (if ofB s t 1 0 = true then [((1 : Int), if (0 : Int) = 0 then -9 else 0)] else []).length ≤ 1 := by split <;> simp
        rw [List.length_append]
        omega
      · have a1 : (if ofB s t 1 0 = true then [((1 : Int), if (0 : Int) = 0 then -9 else 0)] else []).length ≤ 1 := by split <;> simp
        have a2 : (if ofB s t 2 0 = true then [((2 : Int), if (0 : Int) = 0 then -9 else 0)] else []).length ≤ 1 := by split <;> simp
        rw [List.length_append, List.length_append]
        omega
      · rw [he, List.append_assoc, List.append_assoc]
        rfl
    | succ m ih =>
      intro l x O s4 hm hx hO hl he
      have e16 : x.1 16 = s.1 16 := hx.1 16 (by decide) (by decide)
      refine B118_7 ⟨fun q => by omega, fun _ => binderOf_ok (n := 70) (by omega) (DPx x hx) ?_⟩
      rw [bnds x hx]
      refine ⟨fun q => ⟨by omega, ih (l + 1) x O (by omega) (by omega) hx hO (by omega) ?_⟩, fun q => offer_ok h hK ho (by decide) (by omega) hx hO (by omega) (fun w w1 w2 => ⟨by omega, ih (l + 1) w _ (by omega) (by omega) w1 w2 ?_ ?_⟩)⟩
      · rw [← he]
        show O ++ ofN s t m (l + 1) = O ++ ((if bds s (s.1 16) l ≠ -9 ∧ ofB s t 3 l = true then [((3 : Int), l)] else []) ++ ofN s t m (l + 1))
        rw [if_neg (fun c => c.1 q), List.nil_append]
      · have : (if ofB s t 3 l = true then [((3 : Int), if (1 : Int) = 0 then -9 else l)] else []).length ≤ 1 := by split <;> simp
        rw [List.length_append]
        omega
      · rw [← he, List.append_assoc]
        show O ++ ((if ofB s t 3 l = true then [((3 : Int), if (1 : Int) = 0 then -9 else l)] else []) ++ ofN s t m (l + 1)) = O ++ ((if bds s (s.1 16) l ≠ -9 ∧ ofB s t 3 l = true then [((3 : Int), l)] else []) ++ ofN s t m (l + 1))
        cases hb : ofB s t 3 l with
        | false => rw [if_neg (by decide), if_neg (fun c => by cases c.2)]
        | true => rw [if_neg (show ¬ (1 : Int) = 0 by decide), if_pos (show bds s (s.1 16) l ≠ -9 ∧ true = true from ⟨q, rfl⟩), if_pos rfl]
  refine B118 (l1 26 0 (us s 45 0) [] (by decide) (by decide) (SX.eq (eqx_us eqx.rf (ys := [45]) (fs := []) (by decide)) (by decide) (by decide)) ⟨rfl, fun j a hj => by simp at hj⟩ (by decide) rfl)
noncomputable def offA (s : SM) (t : Term) : Int := if s.2 9 (s.1 16) = 0 then (ofL s t).length else -4
theorem offers_ok {F : Int → SM → Prop} (h : AFT s t) (hK : KIs s) (hD : 320 ≤ d) (hF : ∀ w, SX [] [] s w → F (offA s t) w) : cm iv L h0 d 119 [vr 307] s (qi F) := by
  obtain ⟨d, rfl⟩ : ∃ k, d = k + 1 := ⟨d - 1, by omega⟩
  have hcl := h.1.lt h.2.2
  unfold offA at hF
  refine B119 ⟨by omega, fun ho => findOffers_ok h hK ho (by omega) (fun w w1 w2 => ?_), fun ho => ?_⟩
  · have := hF w w1
    rw [if_pos ho, ← w2.1] at this
    exact this
  · have := hF s SX.rf
    rw [if_neg ho] at this
    exact this
noncomputable def of2A (s : SM) (t : Term) (i k : Int) : Int := if 0 ≤ k ∧ k ≤ 1 then (if s.2 9 (s.1 16) = 0 then (if 0 ≤ i then (match (ofL s t)[i.toNat]? with
  | none => -9
  | some a => if k = 0 then a.1 else a.2) else -9) else -4) else -1
theorem offer2_ok {i k : Int} {F : Int → SM → Prop} (h : AFT s t) (hK : KIs s) (hD : 320 ≤ d) (hF : ∀ w, SX [] [] s w → F (of2A s t i k) w) : cm iv L h0 d 120 [vr 307, vi i, vi k] s (qi F) := by
  obtain ⟨d, rfl⟩ : ∃ k, d = k + 1 := ⟨d - 1, by omega⟩
  have hcl := h.1.lt h.2.2
  have hlen : (ofL s t).length ≤ 40 := by
    unfold ofL
    have a1 := ofN_len s t 26 0
    have a2 := ofO_len s t 1
    have a3 := ofO_len s t 2
    have a4 := ofS_len s t 12 4
    simp only [List.length_append]
    omega
  unfold of2A at hF
  refine B120 ⟨fun hk => ⟨by omega, fun ho => findOffers_ok h hK ho (by omega) (fun w w1 w2 => ?_), fun ho => ?_⟩, fun hk => ?_⟩
  · have h2 := hF w w1
    rw [if_pos hk, if_pos ho] at h2
    have h45 := w2.1
    refine ⟨by omega, fun hi => ?_, fun hi => ?_⟩
    · have hlt : i.toNat < (ofL s t).length := by omega
      have g := w2.2 i.toNat _ (List.getElem?_eq_getElem hlt)
      rw [show ((i.toNat : Nat) : Int) = i by omega] at g
      rw [if_pos hi.1, List.getElem?_eq_getElem hlt] at h2
      refine ⟨fun e => ⟨by omega, ?_⟩, fun e => ⟨by omega, ?_⟩⟩
      · rw [g.2]
        have h3 : F (if k = 0 then _ else _) w := h2
        rw [if_neg e] at h3
        exact h3
      · rw [g.1]
        have h3 : F (if k = 0 then _ else _) w := h2
        rw [if_pos e] at h3
        exact h3
    · by_cases h0 : 0 ≤ i
      · rw [if_pos h0, List.getElem?_eq_none (by omega)] at h2
        exact h2
      · rw [if_neg h0] at h2
        exact h2
  · have := hF s SX.rf
    rw [if_pos hk, if_neg ho] at this
    exact this
  · have := hF s SX.rf
    rw [if_neg (by omega)] at this
    exact this
end
end
