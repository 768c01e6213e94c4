section
/-! move(); what rename() and move() leave. -/
def wth7 (s : SM) (y r : Int) : Bool := wth (s.2 12) 70 y r
/-- a NAME that would be bound otherwise where the hole h is -/
def mvb (s : SM) (h y : Int) : Bool := decide (s.2 9 y = 3) && ((decide (bds s y (s.2 10 y) = -9) || !(wth7 s (bds s y (s.2 10 y)) (s.1 16))) && decide (bds s h (s.2 10 y) ≠ bds s y (s.2 10 y)))
def mvU (s : SM) (h : Int) : SM := replU (replU (bornU s 0 (-9) (-9)) (s.1 16) (s.1 8)) h (s.1 16)
noncomputable def mvT (s : SM) (t : Term) (h : Int) : Term := rpT h (sq (s.1 16) t) (rpT (s.1 16) (.index (s.1 8).toNat) t)
def mvSt (s : SM) (h : Int) : Prop := s.2 9 h ≠ 0 ∨ h = s.1 16 ∨ wth7 s h (s.1 16) = true
def mvOk (s : SM) (t : Term) (h : Int) : Prop := h ∈ fl t ∧ ¬ mvSt s h ∧ s.1 8 ≠ 3000 ∧ (fl (sq (s.1 16) t)).any (mvb s h) = false
theorem wth_up {up : Int → Int} : ∀ (n m : Nat) (b r : Int), n ≤ m → wth up n b r = true → wth up m b r = true := by
  intro n
  induction n with
  | zero => intro m b r _ h; cases h
  | succ n ih =>
    intro m b r hm h
    obtain ⟨m, rfl⟩ : ∃ k, m = k + 1 := ⟨m - 1, by omega⟩
    unfold wth at h ⊢
    by_cases e : b = r
    · rw [if_pos e]
    · rw [if_neg e] at h ⊢
      by_cases e2 : up b = -9
      · rw [if_pos e2] at h; cases h
      · rw [if_neg e2] at h ⊢
        exact ih m _ r (by omega) h
theorem wth_tr {up : Int → Int} : ∀ (n m : Nat) (b a r : Int), wth up n b a = true → wth up m a r = true → wth up (n + m) b r = true := by
  intro n
  induction n with
  | zero => intro m b a r h; cases h
  | succ n ih =>
    intro m b a r h h2
    unfold wth at h
    by_cases e : b = a
    · subst e
      exact wth_up m _ _ _ (by omega) h2
    · rw [if_neg e] at h
      by_cases e2 : up b = -9
      · rw [if_pos e2] at h; cases h
      · rw [if_neg e2] at h
        have := ih m _ a r h h2
        rw [show n + 1 + m = (n + m) + 1 by omega]
        unfold wth
        by_cases e3 : b = r
        · rw [if_pos e3]
        · rw [if_neg e3, if_neg e2]
          exact this
theorem wth_sub {so pa up pl : Int → Int} {B : Int} : ∀ (u : Term), AT so pa up pl B u → ∀ y, y ∈ fl u → wth up (2 * dpt u) y (hd u) = true := by
  intro u
  induction u with
  | index n =>
    intro _ y hy
    rw [List.mem_singleton.mp hy]
    show wth up 2 (n : Int) (n : Int) = true
    unfold wth
    rw [if_pos rfl]
  | add t x ih ihx =>
    intro h y hy
    obtain ⟨h1, h2, h3, h4, h5, h6, h7⟩ := h
    have hdp : dpt (Term.add t x) = max (dpt t) (dpt x + 1) := rfl
    have hht : 0 ≤ hd t := ((AT_mem t h1 _ (hd_mem t h1)).1).1
    rcases List.mem_append.mp hy with hy | hy
    · exact wth_up _ _ _ _ (by omega) (ih h1 y hy)
    · have a := ihx h2 y hy
      have b : wth up 2 (hd x) (hd t) = true := by
        unfold wth
        by_cases e : hd x = hd t
        · rw [if_pos e]
        · rw [if_neg e, h6, if_neg (by omega)]
          unfold wth
          rw [if_pos rfl]
      exact wth_up _ _ _ _ (by omega) (wth_tr _ 2 _ _ _ a b)
  | _ => intro h; exact h.elim
theorem wth_70 {s : SM} {t : Term} (h : SHT s t) {y r : Int} (hy : y ∈ fl t) {n : Nat} (hw : wth (s.2 12) n y r = true) : wth7 s y r = true := by
  have hD := DP_tree h y hy
  have h1 := wth_up n (max n 61) y r (by omega) hw
  rw [wth_f 61 (max n 61) y r (by omega) hD] at h1
  exact wth_up 61 70 y r (by decide) h1
theorem sq_wth {s : SM} {t : Term} (h : SHT s t) {c y : Int} (hc : c ∈ fl t) (hy : y ∈ fl (sq c t)) : wth7 s y c = true := by
  obtain ⟨a1, a2, a3, a4, a5, a6, a7⟩ := sq_ok h.1 h.2.1 h.2.2.1 hc
  have := wth_sub _ a1 y hy
  rw [a3] at this
  exact wth_70 h (a4 y hy) this
noncomputable def mvA (s : SM) (t : Term) (h : Int) : Int := if h ∈ fl t then (if s.2 9 h ≠ 0 ∨ h = s.1 16 ∨ wth7 s h (s.1 16) = true then -4 else if s.1 8 = 3000 then -2 else if (fl (sq (s.1 16) t)).any (mvb s h) = true then -6 else s.1 8) else -1
section
variable {iv : List (Int × Int)} {L : Nat} {h0 : MH} {s : SM} {t : Term} {d : Nat}
theorem move_ok {g : Int} {F : Int → SM → Prop} {K : List Snap} (h : SHT s t) (hN : NB s) (hc : s.1 16 ∈ fl t) (hK : KL s K) (hD : 100 ≤ d) (H1 : ∀ w, ¬ mvOk s t g → SX [] [] s w → F (mvA s t g) w) (H2 : mvOk s t g → ∀ w, DONE s t K 0 (mvU s g) w → F (mvA s t g) w) : cm iv L h0 d 112 [vr 307, vi g] s (qi F) := by
  obtain ⟨d, rfl⟩ : ∃ k, d = k + 2 := ⟨d - 2, by omega⟩
  have hct := h.lt hc
  have h8 := h.2.2.2.2.1
  have hDP := fun x hx => DP_up 61 70 _ (by decide) (DP_tree h x hx)
  unfold mvA at H1 H2
  refine B112 (isThere_ok h (by omega) (fun w w1 w2 => ⟨fun e => ?_, fun e => ?_⟩))
  · have hg : g ∈ fl t := Classical.byContradiction fun q => by rw [if_neg q] at e; exact e rfl
    have hgl := h.lt hg
    have w9 : w.2 9 = s.2 9 := w1.2 9 (by decide)
    have w12 : w.2 12 = s.2 12 := w1.2 12 (by decide)
    have w16 : w.1 16 = s.1 16 := w1.1 16 (by decide)
    have st : (s.2 9 g ≠ 0 ∨ g = s.1 16 ∨ wth7 s g (s.1 16) = true) → F (-4) w := fun q => by
      have := H1 w (fun p => p.2.1 q) (SX_lay w1)
      rw [if_pos hg, if_pos q] at this
      exact this
    rw [w9, w16]
    refine ⟨by omega, fun e2 => st (Or.inl e2), fun e2 => ⟨fun e3 => st (Or.inr (Or.inl e3)), fun e3 => isWithin_ok (n := 70) (by omega) (by omega) (by rw [w12]; exact hDP g hg) ?_⟩⟩
    rw [w12]
    have bb : ∀ b' : Bool, ((if b' then (1 : Int) else 0) ≠ 0 → b' = true) ∧ ((if b' then (1 : Int) else 0) = 0 → b' = false) := fun b' => by cases b' <;> simp
    refine ⟨fun e4 => ?_, fun e4 => st (Or.inr (Or.inr ((bb _).1 e4)))⟩
    have e4 : wth7 s g (s.1 16) = false := (bb _).2 e4
    have nst : ¬ (s.2 9 g ≠ 0 ∨ g = s.1 16 ∨ wth7 s g (s.1 16) = true) := fun q => by
      rcases q with q | q | q
      · exact q e2
      · exact e3 q
      · rw [e4] at q; cases q
    rw [w1.1 8 (by decide), w16]
    refine ⟨fun e5 => ?_, fun e5 => ?_⟩
    · refine sizeOf_ok (h.x (SX_lay w1) (by decide) (by decide)) hc (by omega) (fun x x1 x2 => ?_)
      have x1 : eqx [18] [17] s x := w1.tr x1
      have sx := SX_lay x1
      have hTx : SHT x t := h.x sx (by decide) (by decide)
      have x9 : x.2 9 = s.2 9 := x1.2 9 (by decide)
      have x10 : x.2 10 = s.2 10 := x1.2 10 (by decide)
      have x12 : x.2 12 = s.2 12 := x1.2 12 (by decide)
      have x13 : x.2 13 = s.2 13 := x1.2 13 (by decide)
      have x14 : x.2 14 = s.2 14 := x1.2 14 (by decide)
      have x16 : x.1 16 = s.1 16 := x1.1 16 (by decide)
      obtain ⟨a1, a2, a3, a4, a5, a6, a7⟩ := sq_ok h.1 h.2.1 h.2.2.1 hc
      have hll := h.2.2.2.1
      -- the act
      have act : (fl (sq (s.1 16) t)).any (mvb s g) = false → cm iv L h0 (d + 1) 99 [vr 307] x (qv fun s1 => cm iv L h0 (d + 1) 74 [vr 307, vi 0, vi (-9), vi (-9)] s1 (qi fun r3 s2 => cm iv L h0 (d + 1) 77 [vr 307, vi (s1.1 16), vi r3] s2 (qv fun s4 => cm iv L h0 (d + 1) 77 [vr 307, vi g, vi (s1.1 16)] s4 (qv fun s5 => cm iv L h0 (d + 1) 100 [vr 307, vi 0] s5 (qv fun s6 => F r3 s6))))) := fun hany => by
        refine beginAct_ok hTx (by omega) (fun y y1 y2 y3 => ?_)
        have y1 : eqx [18, 30, 31] [17, 32, 33, 34] s y := (x1.up (fun y q => by simp at q ⊢; omega) (fun y q => by simp at q ⊢; omega)).tr y1
        have y3 : AH y (t, s) := by
          obtain ⟨b1, b2, b3⟩ := y3
          refine ⟨b1, b2.trans x16, fun k z hk => ?_⟩
          have := b3 k z hk
          rw [show ((t, x) : Snap).2.2 10 z = s.2 10 z from by show x.2 10 z = _; rw [x10], show ((t, x) : Snap).2.2 14 = s.2 14 from x14] at this
          exact this
        have y8 : y.1 8 = s.1 8 := y1.1 8 (by decide)
        have y16 : y.1 16 = s.1 16 := y1.1 16 (by decide)
        have hx := SX.eq (ey := []) (ef := []) y1 (by decide) (by decide)
        rw [y16]
        refine born_ok (by omega) ?_
        rw [y8]
        have g12 : (bornU y 0 (-9) (-9)).2 12 = s.2 12 := (bornU_e.2 12 (by decide)).trans (y1.2 12 (by decide))
        have g13 : (bornU y 0 (-9) (-9)).2 13 = s.2 13 := (bornU_e.2 13 (by decide)).trans (y1.2 13 (by decide))
        obtain ⟨q1, q2, q3, q4, q5⟩ := replU_in (s1 := bornU y 0 (-9) (-9)) (b := s.1 8) h hc (by rw [g12]) (by rw [g13])
        have z12 : (replU (bornU y 0 (-9) (-9)) (s.1 16) (s.1 8)).2 12 g = s.2 12 g ∧ (replU (bornU y 0 (-9) (-9)) (s.1 16) (s.1 8)).2 13 g = s.2 13 g := by
          have := q4 g (by omega)
          rw [this.1, this.2, g12, g13]
          exact ⟨rfl, rfl⟩
        refine replace_ok (by omega) (by rw [g12, g13]; exact up_in h hc) (by omega) (replace_ok (by omega) (by rw [z12.1, z12.2]; exact up_in h hg) (by omega) ?_)
        refine act_end (s' := mvU s g) h hN hc hK y1 y3 ?_ ?_ ?_ ?_ (fun u u1 u2 => ?_)
        · exact ((bornU_e.up (fun y q => by simp at q ⊢; omega) (fun y q => by simp at q ⊢; omega)).tr (replU_e.up (fun y q => by simp at q ⊢; omega) (fun y q => by simp at q ⊢; omega))).tr (replU_e.up (fun y q => by simp at q ⊢; omega) (fun y q => by simp at q ⊢; omega))
        · rw [replU_e.1 8 (by decide), replU_e.1 8 (by decide), bornU_8]; omega
        · intro z z0 z1
          rw [replU_e.2 9 (by decide), replU_e.2 9 (by decide), (bornU_o z (by rw [y8]; exact z1)).1.1, y1.2 9 (by decide)]
        · exact replU_x (replU_x (bornU_x hx (by decide)) (by omega) (by decide)) (by omega) (by decide)
        · have := H2 ⟨hg, nst, e5, hany⟩ u ⟨u1, u2⟩
          rw [if_pos hg, if_neg nst, if_neg e5, if_neg (by rw [hany]; decide)] at this
          exact this
      have cau : (fl (sq (s.1 16) t)).any (mvb s g) = true → F (-6) x := fun hany => by
        have := H1 x (fun p => by rw [p.2.2.2] at hany; cases hany) sx
        rw [if_pos hg, if_neg nst, if_neg e5, if_pos hany] at this
        exact this
      have key : ∀ (m p : List Int), fl (sq (s.1 16) t) = p ++ m → (fl (sq (s.1 16) t)).any (mvb s g) = m.any (mvb s g) → wm iv L h0 (d + 1 + 1) 112 66 [lr 307, li g, li (fl (sq (s.1 16) t)).length, li p.length] [] x (qi F) := by
        intro m
        induction m with
        | nil =>
          intro p e hb
          refine B112_66 ⟨fun _ => act (by rw [hb]; rfl), fun q => ?_⟩
          rw [e] at q
          simp at q
        | cons y m ih =>
          intro p e hb
          obtain ⟨c1, c2⟩ := LR_cons x2 e
          have hy : y ∈ fl t := a4 y (by rw [e]; simp)
          have hyl := h.lt hy
          have e' := e
          rw [app1] at e'
          have e1 : ((p ++ [y]).length : Int) = p.length + 1 := by simp
          have hpl : (p.length : Int) < (fl (sq (s.1 16) t)).length := by rw [e]; simp; omega
          have nx : mvb s g y = false → (-2147483648 ≤ (p.length : Int) + 1 ∧ (p.length : Int) + 1 ≤ 2147483647) ∧ wm iv L h0 (d + 1 + 1) 112 66 [lr 307, li g, li (fl (sq (s.1 16) t)).length, li (p.length + 1)] [] x (qi F) := fun hz => by
            have := ih (p ++ [y]) e' (by rw [hb]; simp [hz])
            rw [e1] at this
            exact ⟨by omega, this⟩
          have ca : mvb s g y = true → F (-6) x := fun hz => cau (by rw [hb]; simp [hz])
          have dy : DP (x.2 12) 70 y := by rw [x12]; exact hDP y hy
          have dg : DP (x.2 12) 70 g := by rw [x12]; exact hDP g hg
          refine B112_66 ⟨fun q => by omega, fun _ => ?_⟩
          rw [c1, x9, x10]
          refine ⟨by omega, by omega, fun q => nx (by unfold mvb; rw [decide_eq_false q]; rfl), fun q => binderOf_ok (n := 70) (by omega) dy ?_⟩
          rw [x9, x10, x12, x13, x16, c1]
          have e70 : bnd (s.2 9) (s.2 10) (s.2 12) (s.2 13) 70 y (s.2 10 y) = bds s y (s.2 10 y) := rfl
          rw [e70]
          have lastq : ∀ u, u = bds s y (s.2 10 y) → (u = -9 ∨ wth7 s u (s.1 16) = false) → cm iv L h0 (d + 1) 85 [vr 307, vi g, vi (s.2 10 y)] x (qi fun r14 s13 => ((r14 = u → (-2147483648 ≤ (p.length : Int) + 1 ∧ (p.length : Int) + 1 ≤ 2147483647) ∧ wm iv L h0 (d + 1 + 1) 112 66 [lr 307, li g, li (fl (sq (s.1 16) t)).length, li (p.length + 1)] [] s13 (qi F)) ∧ (r14 ≠ u → F (-6) s13))) := fun u hu hout => by
            refine binderOf_ok (n := 70) (by omega) dg ?_
            rw [x9, x10, x12, x13]
            have e71 : bnd (s.2 9) (s.2 10) (s.2 12) (s.2 13) 70 g (s.2 10 y) = bds s g (s.2 10 y) := rfl
            rw [e71]
            have eo : (decide (u = -9) || !(wth7 s u (s.1 16))) = true := by
              rcases hout with q | q
              · rw [decide_eq_true q]; rfl
              · rw [q]; simp
            refine ⟨fun q2 => nx ?_, fun q2 => ca ?_⟩
            · unfold mvb
              rw [← hu, decide_eq_false (p := bds s g (s.2 10 y) ≠ u) (fun c => c q2)]
              simp
            · unfold mvb
              rw [← hu, eo, decide_eq_true q, decide_eq_true q2]
              rfl
          refine ⟨fun e6 => ⟨by omega, lastq _ rfl (Or.inl e6)⟩, fun e6 => ?_⟩
          obtain ⟨b1, b2⟩ := (bnd_rng (so := s.2 9) (nu := s.2 10) (pl := s.2 13) 70 y (s.2 10 y) (hDP y hy)).resolve_left e6
          refine isWithin_ok (n := 70) b1 (by omega) (by rw [x12]; exact b2) ?_
          rw [x12, c1, x10]
          refine ⟨fun q2 => nx ?_, fun q2 => ⟨by omega, lastq _ rfl (Or.inr ((bb _).2 q2))⟩⟩
          have q2 : wth7 s (bds s y (s.2 10 y)) (s.1 16) = true := (bb _).1 q2
          unfold mvb
          rw [q2, decide_eq_false e6]
          simp
      exact key _ [] rfl rfl
    · have := H1 w (fun p => p.2.2.1 e5) (SX_lay w1)
      rw [if_pos hg, if_neg nst, if_pos e5] at this
      exact this
  · have hg : g ∉ fl t := fun q => by rw [if_pos q] at e; cases e
    have := H1 w (fun p => hg p.1) (SX_lay w1)
    rw [if_neg hg] at this
    exact this
theorem rnU_o {v : Int} {f : Nat} (hf : f ≠ 10) : (rnU s t v).2 f = s.2 f := by
  funext y
  show (if f = 10 ∧ (y = s.1 16 ∨ (y ∈ fl t ∧ isB s y = true)) then v else s.2 f y) = s.2 f y
  exact if_neg (fun q => hf q.1)
theorem ren_aft {v : Int} (h : AFT s t) (hg : renOk s t v) : AFT (rnU s t v) t := by
  obtain ⟨h1, h2, h3⟩ := h
  refine ⟨?_, fun x x0 x1 => ?_, h3⟩
  · have e : ∀ f, f ≠ 10 → (rnU s t v).2 f = s.2 f := fun f hf => rnU_o hf
    unfold SHT ATs at h1 ⊢
    rw [e 9 (by decide), e 12 (by decide), e 13 (by decide), e 14 (by decide)]
    exact h1
  · have hn := h2 x x0 x1
    have e9 : (rnU s t v).2 9 = s.2 9 := rnU_o (by decide)
    have e11 : (rnU s t v).2 11 = s.2 11 := rnU_o (by decide)
    rw [e9, e11]
    by_cases e : x = s.1 16 ∨ (x ∈ fl t ∧ isB s x = true)
    · rw [show (rnU s t v).2 10 x = v from if_pos ⟨rfl, e⟩]
      have h2' : s.2 9 x ≠ 2 := by
        rcases e with e | e
        · rw [e]; have := hg.2.1; omega
        · have := e.2
          unfold isB at this
          simp at this
          omega
      exact ⟨hn.1, fun _ => by have := hg.1; omega, fun q => absurd q h2', hn.2.2.2⟩
    · rw [show (rnU s t v).2 10 x = s.2 10 x from if_neg (fun q => e q.2)]
      exact hn
theorem sq_leaf (h : SHT s t) {c : Int} (hc : c ∈ fl t) (h9 : s.2 9 c = 0) : fl (sq c t) = [c] := by
  obtain ⟨a1, a2, a3, a4, a5, a6, a7⟩ := sq_ok h.1 h.2.1 h.2.2.1 hc
  unfold full at a2
  rw [a3, h9] at a2
  obtain ⟨b, eb⟩ := AT_0 a1 a2
  rw [eb] at a3 ⊢
  have a3 : (b : Int) = c := a3
  show [(b : Int)] = [c]
  rw [a3]
theorem mv_aft {g : Int} (h : AFT s t) (hg : mvOk s t g) : AFT (mvU s g) (mvT s t g) := by
  obtain ⟨h1, h2, h3⟩ := h
  obtain ⟨g1, g2, g3, g4⟩ := hg
  unfold mvSt at g2
  have hB := h1.2.2.2.2.1
  have hll := h1.2.2.2.1
  have h8 : s.1 8 < 3000 := by omega
  have e8 : (((s.1 8).toNat : Nat) : Int) = s.1 8 := by omega
  have hgl := h1.lt g1
  have hcl := h1.lt h3
  have g9 : s.2 9 g = 0 := Classical.byContradiction fun q => g2 (Or.inl q)
  -- the sheet behind the first half
  have tk : AFT (tkU s) (tkT s t) ∨ s.2 9 (s.1 16) = 0 := by
    by_cases q : s.2 9 (s.1 16) = 0
    · exact Or.inr q
    · exact Or.inl (take_aft ⟨h1, h2, h3⟩ ⟨q, g3⟩)
  obtain ⟨n1, n2, n3, n4, n5, n6, n7⟩ := new_in (so := 0) (v := -9) (k := -9) h1 h3 (by decide)
  have S1 : SHT (replU (bornU s 0 (-9) (-9)) (s.1 16) (s.1 8)) (rpT (s.1 16) (.index (s.1 8).toNat) t) := by
    have hl := len_rp h1 h3 (.index (s.1 8).toNat)
    have hp := sq_pos h1 h3
    have f1 : (fl (Term.index (s.1 8).toNat)).length = 1 := rfl
    refine SHT_rp h1 h3 ⟨by omega, by omega⟩ n1 ?_ ?_ (fun y hy hyt => ?_) (fun y hy _ => ?_) ?_ ?_ ?_ (by omega)
    · show (0 : Int) = pO ((replU (bornU s 0 (-9) (-9)) (s.1 16) (s.1 8)).2 9 (((s.1 8).toNat : Nat) : Int))
      rw [e8, n3.1]; rfl
    · simp [fl]
    · have := List.mem_singleton.mp hy
      have := h1.lt hyt
      omega
    · have hy2 := h1.lt hy
      obtain ⟨a1, a2, a3⟩ := n4 y hy2.2.1
      exact ⟨a1.1, a2.1, a2.2, fun i _ _ hi => a3 i hi⟩
    · show (replU _ _ _).2 12 (((s.1 8).toNat : Nat) : Int) = _ ∧ (replU _ _ _).2 13 (((s.1 8).toNat : Nat) : Int) = _
      rw [e8]; exact n5
    · intro q
      show (replU _ _ _).2 14 _ = (((s.1 8).toNat : Nat) : Int)
      rw [e8]; exact n6 q
    · show (replU _ _ _).1 15 = if _ then (((s.1 8).toNat : Nat) : Int) else _
      rw [e8]; exact n7
  obtain ⟨a1, a2, a3, a4, a5, a6, a7⟩ := sq_ok h1.1 h1.2.1 h1.2.2.1 h3
  obtain ⟨a, z, e1, e2, e3⟩ := rpT_fl h1.1 h1.2.2.1 h3
  have e2' := e2 (.index (s.1 8).toNat)
  have gn : g ∉ fl (sq (s.1 16) t) := fun q => g2 (Or.inr (Or.inr (sq_wth h1 h3 q)))
  have f1 : fl (Term.index (s.1 8).toNat) = [s.1 8] := by show [(((s.1 8).toNat : Nat) : Int)] = _; rw [e8]
  have gin : g ∈ fl (rpT (s.1 16) (.index (s.1 8).toNat) t) := by
    rw [e2']
    rw [e1] at g1
    simp at g1 ⊢
    rcases g1 with q | q | q
    · exact Or.inl q
    · exact absurd q gn
    · exact Or.inr (Or.inr q)
  have dis : ∀ y, y ∈ fl (sq (s.1 16) t) → y ∉ fl (rpT (s.1 16) (.index (s.1 8).toNat) t) := fun y hy q => by
    rw [e2', f1] at q
    have hnd := h1.2.2.1
    rw [e1] at hnd
    obtain ⟨m1, m2, m3⟩ := List.nodup_append.mp hnd
    obtain ⟨m4, m5, m6⟩ := List.nodup_append.mp m2
    rcases List.mem_append.mp q with q | q
    · exact m3 y q y (List.mem_append_left _ hy) rfl
    · rcases List.mem_append.mp q with q | q
      · have := List.mem_singleton.mp q
        have := h1.lt (a4 y hy)
        omega
      · exact m6 y hy y q rfl
  have cm0 : s.1 16 ∈ fl (sq (s.1 16) t) := by have := hd_mem _ a1; rw [a3] at this; exact this
  have cn := dis _ cm0
  have gs := n4 g hgl.2.1
  have S9 : (replU (bornU s 0 (-9) (-9)) (s.1 16) (s.1 8)).2 9 g = 0 := gs.1.1.trans g9
  have lf := sq_leaf S1 gin S9
  have hl1 := len_rp h1 h3 (.index (s.1 8).toNat)
  have hl2 := len_rp S1 gin (sq (s.1 16) t)
  rw [lf] at hl2
  rw [f1] at hl1
  simp only [List.length_cons, List.length_nil] at hl1 hl2
  obtain ⟨r1, r2, r3, r4, r5⟩ := replU_in (b := s.1 16) S1 gin rfl rfl
  have E9 : (mvU s g).2 9 = (replU (bornU s 0 (-9) (-9)) (s.1 16) (s.1 8)).2 9 := replU_e.2 9 (by decide)
  have E10 : (mvU s g).2 10 = (replU (bornU s 0 (-9) (-9)) (s.1 16) (s.1 8)).2 10 := replU_e.2 10 (by decide)
  have E11 : (mvU s g).2 11 = (replU (bornU s 0 (-9) (-9)) (s.1 16) (s.1 8)).2 11 := replU_e.2 11 (by decide)
  have E8 : (mvU s g).1 8 = s.1 8 + 1 := (replU_e.1 8 (by decide)).trans n2
  have hup1 := up_in S1 gin
  have hupn : (replU (bornU s 0 (-9) (-9)) (s.1 16) (s.1 8)).2 12 g ∉ fl (sq (s.1 16) t) := fun q => by
    have hq := a4 _ q
    have hql := h1.lt hq
    by_cases e : g = hd (rpT (s.1 16) (.index (s.1 8).toNat) t)
    · have := S1.2.2.2.2.2.2.1
      rw [← e] at this
      omega
    · have := ((AT_mem _ S1.1 g gin).2.2.2 e).1
      exact dis _ q this
  refine ⟨SHT_rp (w := mvU s g) S1 gin ⟨by rw [E8, n2]; exact Int.le_refl _, by rw [E8]; omega⟩ ?_ ?_ a5 (fun y hy hyt => absurd hyt (dis y hy)) (fun y hy hyn => ?_) ?_ ?_ ?_ (by omega), NB_new h2 ?_ (fun y y0 y1 => ?_) (fun y y0 y1 => ?_), ?_⟩
  · refine AT_cg (by rw [E8]; omega) _ a1 a5 (fun x hx => ?_) (fun x hx hne => ?_)
    · have hxl := h1.lt (a4 x hx)
      obtain ⟨b1, b2, b3⟩ := n4 x hxl.2.1
      refine ⟨by rw [E9]; exact b1.1, fun j j0 j1 _ => ?_⟩
      have hpo := pO_in (s.2 9 x)
      have k1 : 3 * x + j ≠ 3 * s.2 12 (s.1 16) + s.2 13 (s.1 16) := fun q => by
        rcases up_in h1 h3 with e | e
        · have e13 : s.1 16 = hd t := Classical.byContradiction fun q => by
            have := h1.lt ((AT_mem t h1.1 _ h3).2.2.2 q).1
            omega
          have := h1.2.2.2.2.2.2.2
          rw [← e13] at this
          omega
        · have : x = s.2 12 (s.1 16) := by omega
          exact sq_up h1 h3 (by rw [← this]; exact hx)
      have k2 : 3 * x + j ≠ 3 * (replU (bornU s 0 (-9) (-9)) (s.1 16) (s.1 8)).2 12 g + (replU (bornU s 0 (-9) (-9)) (s.1 16) (s.1 8)).2 13 g := fun q => by
        rcases hup1 with e | e
        · have e13 : g = hd (rpT (s.1 16) (.index (s.1 8).toNat) t) := Classical.byContradiction fun q => by
            have := S1.lt ((AT_mem _ S1.1 _ gin).2.2.2 q).1
            omega
          have := S1.2.2.2.2.2.2.2
          rw [← e13] at this
          omega
        · have : x = (replU (bornU s 0 (-9) (-9)) (s.1 16) (s.1 8)).2 12 g := by omega
          exact hupn (by rw [← this]; exact hx)
      exact (r5 _ k2).trans (b3 j k1)
    · rw [a3] at hne
      have hxl := h1.lt (a4 x hx)
      obtain ⟨b1, b2, b3⟩ := n4 x hxl.2.1
      have := r4 x hne
      exact ⟨this.1.trans b2.1, this.2.trans b2.2⟩
  · unfold full at a2 ⊢
    rw [a2, a3, E9, (n4 _ hcl.2.1).1.1]
  · have hne : y ≠ s.1 16 := fun q => cn (q ▸ hy)
    have := r4 y hne
    exact ⟨by rw [E9], this.1, this.2, fun i i0 i3 hi => r5 _ hi⟩
  · rw [a3]; exact r1
  · intro q
    rw [a3]; exact r2 q
  · rw [a3]; exact r3
  · exact (replU_e.1 2 (by decide)).trans ((replU_e.1 2 (by decide)).trans (bornU_e.1 2 (by decide)))
  · rw [E9, E10, E11]; exact (n4 y y1).1
  · rw [E8] at y1
    obtain rfl : y = s.1 8 := by omega
    exact nodOk_hole (by rw [E9]; exact n3.1)
  · have e16 : (mvU s g).1 16 = s.1 16 := (replU_e.1 16 (by decide)).trans ((replU_e.1 16 (by decide)).trans (bornU_e.1 16 (by decide)))
    rw [e16]
    exact hl2.2 _ cm0
end
end
section
/-! The shelf: shelve(), fill(). -/
/-- what a node bears is right, kinds below n -/
def bearOk (n so nu td : Int) : Prop := (0 ≤ so ∧ so < 16) ∧ ((so = 3 ∨ so = 8 ∨ so = 10) → 0 ≤ nu ∧ nu < 26) ∧ (so = 2 → nu = 0 ∨ nu = 1) ∧ ((so = 8 ∨ so = 15) → 0 ≤ td ∧ td < n) ∧ nvl so nu = nu ∧ kvl so td = td
/-- numbers, kinds are there just where a sort bears them -/
def NV (s : SM) : Prop := ∀ x, 0 ≤ x → x < s.1 8 → nvl (s.2 9 x) (s.2 10 x) = s.2 10 x ∧ kvl (s.2 9 x) (s.2 11 x) = s.2 11 x
theorem NV.x {ey ef : List Nat} {s w : SM} (h : NV s) (hx : SX ey ef s w) (h8 : s.1 8 ≤ 3000) (hy : 8 ∉ ey) (hf : 9 ∉ ef ∧ 10 ∉ ef ∧ 11 ∉ ef) : NV w := fun x h0 h1 => by
  rw [hx.1 8 (by decide) hy] at h1
  have hi : ∀ f, (f = 9 ∨ f = 10 ∨ f = 11) → ¬ scI f x := fun f q => by unfold scI; omega
  rw [hx.2 9 (by decide) hf.1 x (hi 9 (by decide)), hx.2 10 (by decide) hf.2.1 x (hi 10 (by decide)), hx.2 11 (by decide) hf.2.2 x (hi 11 (by decide))]
  exact h x h0 h1
/-- a place of the shelf has a tree as it was -/
def SE (s : SM) (p : Int) (e : Snap) : Prop := s.2 37 p = (fl e.1).length ∧ (AT (e.2.2 9) (e.2.2 14) (e.2.2 12) (e.2.2 13) (e.2.1 8) e.1 ∧ full (e.2.2 9) e.1 ∧ (fl e.1).Nodup ∧ (fl e.1).length ≤ 60) ∧ ∀ (k : Nat) (x : Int), (fl e.1)[k]? = some x → (s.2 38 (60 * p + k) = e.2.2 9 x ∧ s.2 39 (60 * p + k) = e.2.2 10 x ∧ s.2 40 (60 * p + k) = e.2.2 11 x) ∧ bearOk (s.1 2) (e.2.2 9 x) (e.2.2 10 x) (e.2.2 11 x)
def ShL (s : SM) (Sh : Int → Option Snap) : Prop := ∀ p, 0 ≤ p → p < 6 → (Sh p = none → s.2 37 p = 0) ∧ ∀ e, Sh p = some e → SE s p e
def shP (Sh : Int → Option Snap) (p : Int) (e : Snap) : Int → Option Snap := fun q => if q = p then some e else Sh q
theorem bearOk_up {n m so nu td : Int} (h : bearOk n so nu td) (hm : n ≤ m) : bearOk m so nu td := ⟨h.1, h.2.1, h.2.2.1, fun q => by have := h.2.2.2.1 q; omega, h.2.2.2.2⟩
theorem SE_up {s w : SM} {p : Int} {e : Snap} (h : SE s p e) (h2 : s.1 2 ≤ w.1 2) (hr : w.2 37 p = s.2 37 p) (hk : ∀ k : Nat, (k : Int) < s.2 37 p → w.2 38 (60 * p + k) = s.2 38 (60 * p + k) ∧ w.2 39 (60 * p + k) = s.2 39 (60 * p + k) ∧ w.2 40 (60 * p + k) = s.2 40 (60 * p + k)) : SE w p e := by
  obtain ⟨a1, a2, a3⟩ := h
  refine ⟨hr.trans a1, a2, fun k x hx => ?_⟩
  obtain ⟨⟨b1, b2, b3⟩, b4⟩ := a3 k x hx
  have := (List.getElem?_eq_some_iff.mp hx).1
  obtain ⟨c1, c2, c3⟩ := hk k (by omega)
  exact ⟨⟨c1.trans b1, c2.trans b2, c3.trans b3⟩, bearOk_up b4 h2⟩
theorem ShL.x {ey ef : List Nat} {s w : SM} {Sh : Int → Option Snap} (h : ShL s Sh) (hx : SX ey ef s w) (hy : 2 ∉ ey) (hf : 37 ∉ ef ∧ 38 ∉ ef ∧ 39 ∉ ef ∧ 40 ∉ ef) : ShL w Sh := fun p p0 p6 => by
  obtain ⟨h1, h2⟩ := h p p0 p6
  have e : ∀ f i, (f = 37 ∨ f = 38 ∨ f = 39 ∨ f = 40) → w.2 f i = s.2 f i := fun f i q => hx.2 f (by rcases q with rfl | rfl | rfl | rfl <;> decide) (by rcases q with rfl | rfl | rfl | rfl; exact hf.1; exact hf.2.1; exact hf.2.2.1; exact hf.2.2.2) i (by unfold scI; omega)
  refine ⟨fun q => by rw [e 37 p (by decide)]; exact h1 q, fun u hu => SE_up (h2 u hu) (by rw [hx.1 2 (by decide) hy]; exact Int.le_refl _) (e 37 p (by decide)) (fun k _ => ⟨e 38 _ (by decide), e 39 _ (by decide), e 40 _ (by decide)⟩)⟩
theorem ShL.many {s : SM} {Sh : Int → Option Snap} (h : ShL s Sh) : ∀ p, 0 ≤ p → p < 6 → 0 ≤ s.2 37 p ∧ s.2 37 p ≤ 60 := fun p p0 p6 => by
  obtain ⟨h1, h2⟩ := h p p0 p6
  cases e : Sh p with
  | none => rw [h1 e]; decide
  | some u =>
    obtain ⟨a1, a2, a3⟩ := h2 u e
    rw [a1]
    have := a2.2.2.2
    omega
/-- a tree with births of its own, from B on -/
def rlb : Term → Nat → Term
  | .add t x, B => .add (rlb t B) (rlb x (B + (fl t).length))
  | _, B => .index B
theorem rlb_fl {so pa up pl : Int → Int} {B0 : Int} : ∀ (t : Term) (B : Nat), AT so pa up pl B0 t → fl (rlb t B) = (List.range' B (fl t).length).map Int.ofNat ∧ hd (rlb t B) = B ∧ na (rlb t B) = na t := by
  intro t
  induction t with
  | index n => intro B _; exact ⟨rfl, rfl, rfl⟩
  | add t x ih ihx =>
    intro B h
    obtain ⟨h1, h2, -⟩ := h
    obtain ⟨a1, a2, a3⟩ := ih B h1
    obtain ⟨b1, b2, b3⟩ := ihx (B + (fl t).length) h2
    refine ⟨?_, a2, by show na (rlb t B) + 1 = na t + 1; rw [a3]⟩
    show fl (rlb t B) ++ fl (rlb x (B + (fl t).length)) = _
    rw [a1, b1, ← List.map_append, List.range'_append_1]
    show _ = (List.range' B (fl t ++ fl x).length).map Int.ofNat
    rw [List.length_append]
  | _ => intro B h; exact h.elim
theorem rlb_at {so pa up pl : Int → Int} {B0 : Int} {t : Term} {B : Nat} (h : AT so pa up pl B0 t) {y : Int} (hy : y ∈ fl (rlb t B)) : (B : Int) ≤ y ∧ y < B + (fl t).length := by
  rw [(rlb_fl t B h).1] at hy
  obtain ⟨z, h1, h2⟩ := List.mem_map.mp hy
  obtain ⟨h3, h4⟩ := List.mem_range'_1.mp h1
  rw [← h2]
  show (B : Int) ≤ (z : Int) ∧ (z : Int) < _
  omega
theorem rlb_nd {so pa up pl : Int → Int} {B0 : Int} {t : Term} {B : Nat} (h : AT so pa up pl B0 t) : (fl (rlb t B)).Nodup := by
  rw [(rlb_fl t B h).1, List.nodup_iff_pairwise_ne, List.pairwise_map]
  exact (List.nodup_iff_pairwise_ne.mp List.nodup_range').imp (fun q e => q (Int.ofNat.inj e))
/-- nodes born anew by what is on the shelf -/
def BF (z s w : SM) (t : Term) : Prop := w.1 8 = s.1 8 + (fl t).length ∧ w.1 41 = s.1 41 + (fl t).length ∧ ATs w (rlb t (s.1 8).toNat) ∧ OLD (fun y => y < s.1 8) s w ∧ eqx [8, 41] [9, 10, 11, 12, 13, 14] s w ∧ ∀ (k : Nat) (x : Int), (fl t)[k]? = some x → w.2 9 (s.1 8 + k) = z.2 9 x ∧ w.2 10 (s.1 8 + k) = z.2 10 x ∧ w.2 11 (s.1 8 + k) = z.2 11 x
/-- what the shelf has from here on -/
def BR (z s : SM) (p : Int) (t : Term) : Prop := ∀ (k : Nat) (x : Int), (fl t)[k]? = some x → (s.2 38 (60 * p + (s.1 41 + k)) = z.2 9 x ∧ s.2 39 (60 * p + (s.1 41 + k)) = z.2 10 x ∧ s.2 40 (60 * p + (s.1 41 + k)) = z.2 11 x) ∧ (nvl (z.2 9 x) (z.2 10 x) = z.2 10 x ∧ kvl (z.2 9 x) (z.2 11 x) = z.2 11 x)
section
variable {iv : List (Int × Int)} {L : Nat} {h0 : MH} {s : SM} {t : Term} {d : Nat}
theorem bf_part {z : SM} {p : Int} (hp : 0 ≤ p ∧ p < 6) : ∀ (t : Term), AT (z.2 9) (z.2 14) (z.2 12) (z.2 13) (z.1 8) t → ∀ (D : Nat) (s : SM) (F : Int → SM → Prop), BR z s p t → dpt t ≤ D → 0 ≤ s.1 8 → s.1 8 + (fl t).length ≤ 3000 → 0 ≤ s.1 41 → s.1 41 + (fl t).length ≤ 60 →
    (∀ w, BF z s w t → wm iv L h0 (D + 1) 114 46 [lr 307, li p, ln, li (s.1 8), li (na t)] [] w (qi F)) → cm iv L h0 (D + 1) 114 [vr 307, vi p] s (qi F) := by
  intro t
  induction t with
  | index n =>
    intro h D s F hR hD h8 hl h41 hl2 hw
    obtain ⟨D, rfl⟩ : ∃ k, D = k + 1 := ⟨D - 1, by have : dpt (Term.index n) = 1 := rfl; omega⟩
    have h1 : (fl (Term.index n)).length = 1 := rfl
    obtain ⟨⟨r1, r2, r3⟩, r4, r5⟩ := hR 0 n rfl
    rw [show 60 * p + (s.1 41 + ((0 : Nat) : Int)) = 60 * p + s.1 41 by omega] at r1 r2 r3
    refine B114 ⟨by omega, by omega, by omega, by omega, born_ok (s := us s 41 (s.1 41 + 1)) ⟨h8, by show s.1 8 < 3004; omega⟩ ?_⟩
    have g8 : (us s 41 (s.1 41 + 1)).1 8 = s.1 8 := rfl
    rw [r1, r2, r3]
    refine hw _ ⟨?_, ?_, ⟨?_, ?_⟩, bornU_o, ?_, fun k x hk => ?_⟩
    · rw [h1]; rfl
    · rw [h1]; rfl
    · show (((s.1 8).toNat : Nat) : Int) < s.1 8 + 1; omega
    · have := bornU_at (s := us s 41 (s.1 41 + 1)) (so := z.2 9 n) (v := z.2 10 n) (k := z.2 11 n)
      rw [show (((s.1 8).toNat : Nat) : Int) = (us s 41 (s.1 41 + 1)).1 8 from by rw [g8]; omega, this.1]
      exact h.2
    · exact (eqx_us (s := s) (t := s) eqx.rf (y := 41) (z := s.1 41 + 1) (by decide)).tr (bornU_e.up (fun y q => by simp at q ⊢; omega) (fun y q => by simp at q ⊢; omega))
    · have hk : [(n : Int)][k]? = some x := hk
      cases k with
      | zero =>
        simp at hk
        subst hk
        have := bornU_at (s := us s 41 (s.1 41 + 1)) (so := z.2 9 n) (v := z.2 10 n) (k := z.2 11 n)
        rw [g8, r4, r5] at this
        rw [show s.1 8 + ((0 : Nat) : Int) = s.1 8 by omega]
        exact this
      | succ k => simp at hk
  | add t x ih ihx =>
    intro h D s F hR hD h8 hl h41 hl2 hw
    obtain ⟨h1, h2, h3, h4, h5, h6, h7⟩ := h
    have hlen : (fl (Term.add t x)).length = (fl t).length + (fl x).length := by show (fl t ++ fl x).length = _; simp
    have hdp : dpt (Term.add t x) = max (dpt t) (dpt x + 1) := rfl
    obtain ⟨D, rfl⟩ : ∃ k, D = k + 1 := ⟨D - 1, by omega⟩
    have m1 := AT_mem t h1 _ (hd_mem t h1)
    have m2 := AT_mem x h2 _ (hd_mem x h2)
    have n1 := na_ge t
    have p1 := pO_in (z.2 9 (hd t))
    have lt0 := List.length_pos_of_mem (hd_mem t h1)
    have lx0 := List.length_pos_of_mem (hd_mem x h2)
    obtain ⟨rt, et⟩ := fl_hd t h1
    obtain ⟨rx, ex⟩ := fl_hd x h2
    refine ih h1 (D + 1) s F (fun k y hk => hR k y (by show (fl t ++ fl x)[k]? = some y; rw [List.getElem?_append_left (List.getElem?_eq_some_iff.mp hk).1]; exact hk)) (by omega) h8 (by omega) h41 (by omega) (fun w hw1 => ?_)
    obtain ⟨a1, a2, a3, a4, a5, a6⟩ := hw1
    have w9 : w.2 9 (s.1 8) = z.2 9 (hd t) := by
      have := (a6 0 (hd t) (by rw [et]; rfl)).1
      rw [show s.1 8 + ((0 : Nat) : Int) = s.1 8 by omega] at this
      exact this
    refine B114_46 ⟨by omega, by rw [w9]; exact m1.2.1, fun e => ?_, fun _ => ?_⟩
    · exfalso
      rw [w9] at e
      omega
    · refine ihx h2 D w _ (fun k y hk => ?_) (by omega) (by omega) (by omega) (by omega) (by omega) (fun v hv => ?_)
      · have := hR ((fl t).length + k) y (by show (fl t ++ fl x)[(fl t).length + k]? = some y; rw [List.getElem?_append_right (by omega), Nat.add_sub_cancel_left]; exact hk)
        rw [a5.2 38 (by decide), a5.2 39 (by decide), a5.2 40 (by decide), a2, show s.1 41 + ((fl t).length : Int) + (k : Int) = s.1 41 + (((fl t).length + k : Nat) : Int) by omega]
        exact this
      · obtain ⟨b1, b2, b3, b4, b5, b6⟩ := hv
        have v9 : v.2 9 (w.1 8) = z.2 9 (hd x) := by
          have := (b6 0 (hd x) (by rw [ex]; rfl)).1
          rw [show w.1 8 + ((0 : Nat) : Int) = w.1 8 by omega] at this
          exact this
        refine B114_46 ⟨by omega, by rw [v9]; exact m2.2.1, fun _ => ?_, fun e => ?_⟩
        · have e8 : (w.1 8).toNat = (s.1 8).toNat + (fl t).length := by omega
          have e88 : (((s.1 8).toNat : Nat) : Int) = s.1 8 := by omega
          obtain ⟨c1, c2, c3⟩ := rlb_fl t (s.1 8).toNat h1
          obtain ⟨d1, d2, d3⟩ := rlb_fl x ((s.1 8).toNat + (fl t).length) h2
          have pe := partU_e (s := v) (b := s.1 8) (i := na t) (c := w.1 8)
          have pt := partU_at (s := v) (b := s.1 8) (i := na t) (c := w.1 8)
          have po := partU_o (s := v) (b := s.1 8) (i := na t) (c := w.1 8) ⟨n1, by omega⟩
          refine setPart_ok (by omega) (by omega) (by omega) ⟨by omega, hw _ ⟨?_, ?_, ?_, ?_, ?_, fun k y hk => ?_⟩⟩
          · show v.1 8 = _; omega
          · show v.1 41 = _; omega
          · -- the tree behind it
            have vt : ATs v (rlb t (s.1 8).toNat) := AT_ag (by omega) a3 (rlb_nd h1) (fun y hy => by
              have hy2 := rlb_at h1 hy
              obtain ⟨q1, q2, q3⟩ := b4 y (by omega)
              exact ⟨q1.1, q2.1, q2.2, fun i i0 i3 => q3 i i0 i3⟩)
            rw [e8] at b3
            refine ⟨?_, ?_, ?_, ?_, ?_, ?_, ?_⟩
            · refine AT_cg (Int.le_refl _) _ vt (rlb_nd h1) (fun y hy => ⟨by rw [pe.2 9 (by decide)], fun i i0 i1 i2 => ?_⟩) (fun y hy hne => ?_)
              · have hy2 := rlb_at h1 hy
                by_cases e : y = s.1 8
                · have i2 := i2 (by rw [c2, e, e88])
                  rw [c3] at i2
                  subst e
                  simp only [partU, ua_2]
                  rw [if_neg (by omega), if_neg (by omega), if_neg (by omega)]
                · exact (po y ⟨e, by omega⟩).2.2 i i0 (by have := pO_in (v.2 9 y); omega)
              · have hy2 := rlb_at h1 hy
                rw [c2, e88] at hne
                exact (po y ⟨hne, by omega⟩).2.1
            · refine AT_cg (Int.le_refl _) _ b3 (rlb_nd h2) (fun y hy => ⟨by rw [pe.2 9 (by decide)], fun i i0 i1 i2 => ?_⟩) (fun y hy hne => ?_)
              · have hy2 := rlb_at h2 hy
                have := pO_in (v.2 9 y)
                simp only [partU, ua_2]
                rw [if_neg (by omega), if_neg (by omega), if_neg (by omega)]
              · have hy2 := rlb_at h2 hy
                rw [d2] at hne
                exact (po y ⟨by omega, by omega⟩).2.1
            · show na (rlb x _) = pO ((partU v _ _ _).2 9 (hd (rlb x _)))
              rw [d3, d2, pe.2 9 (by decide), show (((s.1 8).toNat + (fl t).length : Nat) : Int) = w.1 8 by omega, v9, ← h3]
            · rw [c2, c3, e88, pe.2 9 (by decide)]
              have := (b4 (s.1 8) (by omega)).1.1
              rw [this, w9]
              exact h4
            · rw [c2, c3, d2, e88, show (((s.1 8).toNat + (fl t).length : Nat) : Int) = w.1 8 by omega]; exact pt.1
            · rw [c2, d2, e88, show (((s.1 8).toNat + (fl t).length : Nat) : Int) = w.1 8 by omega]; exact pt.2.1
            · rw [c3, d2, show (((s.1 8).toNat + (fl t).length : Nat) : Int) = w.1 8 by omega]; exact pt.2.2
          · exact (a4.tr (b4.mo (fun y (q : y < s.1 8) => by omega))).tr (po.mo (fun y (q : y < s.1 8) => by omega))
          · exact (a5.tr b5).tr (pe.up (fun _ q => by cases q) (fun y q => by simp at q ⊢; omega))
          · rw [pe.2 9 (by decide), pe.2 10 (by decide), pe.2 11 (by decide)]
            have hk : (fl t ++ fl x)[k]? = some y := hk
            by_cases hkt : k < (fl t).length
            · rw [List.getElem?_append_left hkt] at hk
              obtain ⟨⟨q1, q2, q3⟩, -⟩ := b4 (s.1 8 + k) (by omega)
              obtain ⟨q4, q5, q6⟩ := a6 k y hk
              exact ⟨q1.trans q4, q2.trans q5, q3.trans q6⟩
            · rw [List.getElem?_append_right (by omega)] at hk
              have := b6 (k - (fl t).length) y hk
              rw [show w.1 8 + ((k - (fl t).length : Nat) : Int) = s.1 8 + (k : Int) by omega] at this
              exact this
        · exfalso
          rw [v9, ← h3] at e
          omega
  | _ => intro h; exact h.elim
theorem bornFrom_ok {z : SM} {p : Int} {D : Nat} {F : Int → SM → Prop} (hp : 0 ≤ p ∧ p < 6) (h : AT (z.2 9) (z.2 14) (z.2 12) (z.2 13) (z.1 8) t) (hf : full (z.2 9) t) (hR : BR z s p t) (hD : dpt t ≤ D) (h8 : 0 ≤ s.1 8) (hl : s.1 8 + (fl t).length ≤ 3000) (h41 : 0 ≤ s.1 41) (hl2 : s.1 41 + (fl t).length ≤ 60) (hF : ∀ w, BF z s w t → F (s.1 8) w) : cm iv L h0 (D + 1) 114 [vr 307, vi p] s (qi F) := by
  refine bf_part hp t h D s F hR hD h8 hl h41 hl2 (fun w hw => ?_)
  have m1 := AT_mem t h _ (hd_mem t h)
  have lt0 := List.length_pos_of_mem (hd_mem t h)
  obtain ⟨rt, et⟩ := fl_hd t h
  have w9 : w.2 9 (s.1 8) = z.2 9 (hd t) := by
    have := (hw.2.2.2.2.2 0 (hd t) (by rw [et]; rfl)).1
    rw [show s.1 8 + ((0 : Nat) : Int) = s.1 8 by omega] at this
    exact this
  have hDp := dpt_pos t
  obtain ⟨D, rfl⟩ : ∃ k, D = k + 1 := ⟨D - 1, by omega⟩
  refine B114_46 ⟨by omega, by rw [w9]; exact m1.2.1, fun _ => hF w hw, fun e => ?_⟩
  exfalso
  rw [w9, ← hf] at e
  omega
/-- shelve() -/
def shvA (s : SM) (n p : Int) : Int := if 0 ≤ p ∧ p < 6 then n else -1
theorem shelve_ok {p : Int} {F : Int → SM → Prop} {Sh : Int → Option Snap} (h : SHT s t) (hN : NB s) (hV : NV s) (hc : s.1 16 ∈ fl t) (hS : ShL s Sh) (hD : 100 ≤ d) (H1 : ¬ (0 ≤ p ∧ p < 6) → F (-1) s) (H2 : 0 ≤ p ∧ p < 6 → ∀ w, SX [] [37, 38, 39, 40] s w → ShL w (shP Sh p (sq (s.1 16) t, s)) → F (fl (sq (s.1 16) t)).length w) : cm iv L h0 d 113 [vr 307, vi p] s (qi F) := by
  obtain ⟨d, rfl⟩ : ∃ k, d = k + 1 := ⟨d - 1, by omega⟩
  obtain ⟨a1, a2, a3, a4, a5, a6, a7⟩ := sq_ok h.1 h.2.1 h.2.2.1 hc
  have hll := h.2.2.2.1
  refine B113 ⟨fun hp => sizeOf_ok h hc (by omega) (fun w w1 w2 => ⟨by omega, ?_⟩), fun hp => H1 (by omega)⟩
  have key : ∀ (m q : List Int) (x : SM), fl (sq (s.1 16) t) = q ++ m → eqx [] [38, 39, 40] (ua w 37 p (fl (sq (s.1 16) t)).length) x → (∀ (k : Nat) (y : Int), q[k]? = some y → x.2 38 (60 * p + k) = s.2 9 y ∧ x.2 39 (60 * p + k) = s.2 10 y ∧ x.2 40 (60 * p + k) = s.2 11 y) → (∀ y, y < 60 * p ∨ 60 * p + 60 ≤ y → x.2 38 y = s.2 38 y ∧ x.2 39 y = s.2 39 y ∧ x.2 40 y = s.2 40 y) → wm iv L h0 (d + 1) 113 29 [lr 307, li p, li (fl (sq (s.1 16) t)).length, li q.length] [] x (qi F) := by
    intro m
    induction m with
    | nil =>
      intro q x e x1 x2 x3
      have eq : q = fl (sq (s.1 16) t) := by rw [e]; simp
      have x37 : ∀ y, x.2 37 y = if y = p then ((fl (sq (s.1 16) t)).length : Int) else s.2 37 y := fun y => by
        rw [x1.2 37 (by decide), ua_2, w1.2 37 (by decide)]
        by_cases e1 : y = p
        · rw [if_pos ⟨rfl, e1⟩, if_pos e1]
        · rw [if_neg (by omega), if_neg e1]
      have x2' : x.1 2 = s.1 2 := (x1.1 2 (by decide)).trans (w1.1 2 (by decide))
      refine B113_29 ⟨fun _ => H2 (by omega) x ?_ (fun r r0 r6 => ⟨fun hn => ?_, fun u hu => ?_⟩), fun q2 => by rw [eq] at q2; omega⟩
      · refine (SX_lay w1).up (fun _ q => by cases q) (fun _ q => by cases q) |>.tr ⟨fun y _ _ => ?_, fun f _ b2 i _ => ?_⟩
        · exact x1.1 y (by simp)
        · simp at b2
          rw [x1.2 f (by simp; omega), ua_2, if_neg (by omega)]
      · unfold shP at hn
        by_cases e1 : r = p
        · rw [if_pos e1] at hn; cases hn
        · rw [if_neg e1] at hn
          rw [x37, if_neg e1]
          exact (hS r r0 r6).1 hn
      · unfold shP at hu
        by_cases e1 : r = p
        · rw [if_pos e1] at hu
          cases hu
          subst e1
          refine ⟨by rw [x37, if_pos rfl], ⟨a1, a2, a5, Nat.le_trans a6 hll⟩, fun k y hk => ?_⟩
          refine ⟨x2 k y (by rw [eq]; exact hk), ?_⟩
          have hy := h.lt (a4 y (List.mem_of_getElem? hk))
          have nb := hN y hy.1 hy.2.1
          have nv := hV y hy.1 hy.2.1
          rw [x2']
          exact ⟨nb.1, nb.2.1, nb.2.2.1, nb.2.2.2, nv.1, nv.2⟩
        · rw [if_neg e1] at hu
          have := (hS r r0 r6).2 u hu
          have hm := hS.many r r0 r6
          exact SE_up this (by rw [x2']; exact Int.le_refl _) (by rw [x37, if_neg e1]) (fun k hk => x3 _ (by omega))
    | cons y m ih =>
      intro q x e x1 x2 x3
      obtain ⟨c1, c2⟩ := LR_cons w2 e
      have hy : y ∈ fl t := a4 y (by rw [e]; simp)
      have hyl := h.lt hy
      have e' := e
      rw [app1] at e'
      have e1 : ((q ++ [y]).length : Int) = q.length + 1 := by simp
      have hpl : (q.length : Int) < (fl (sq (s.1 16) t)).length := by rw [e]; simp; omega
      have x17 : x.2 17 q.length = y := by rw [x1.2 17 (by decide)]; exact c1
      have x9 : x.2 9 = s.2 9 := (x1.2 9 (by decide)).trans (w1.2 9 (by decide))
      have x10 : x.2 10 = s.2 10 := (x1.2 10 (by decide)).trans (w1.2 10 (by decide))
      have x11 : x.2 11 = s.2 11 := (x1.2 11 (by decide)).trans (w1.2 11 (by decide))
      refine B113_29 ⟨fun q => by omega, fun _ => ?_⟩
      rw [x17, x9, x10, x11]
      refine ⟨by omega, by omega, by omega, by omega, by omega, by omega, ?_⟩
      have := ih (q ++ [y]) (ua (ua (ua x 38 (60 * p + q.length) (s.2 9 y)) 39 (60 * p + q.length) (s.2 10 y)) 40 (60 * p + q.length) (s.2 11 y)) e' (eqx_ua (eqx_ua (eqx_ua x1 (by decide)) (by decide)) (by decide)) (fun k y' hk => ?_) (fun y' hy' => ?_)
      · rw [e1] at this
        exact this
      · simp only [ua_2]
        by_cases hkp : k < q.length
        · rw [List.getElem?_append_left hkp] at hk
          rw [if_neg (by omega), if_neg (by omega), if_neg (by omega), if_neg (by omega), if_neg (by omega), if_neg (by omega), if_neg (by omega), if_neg (by omega), if_neg (by omega)]
          exact x2 k y' hk
        · rw [List.getElem?_append_right (by omega)] at hk
          have hk0 : k = q.length := by
            have := (List.getElem?_eq_some_iff.mp hk).1
            simp at this
            omega
          subst hk0
          simp at hk
          subst hk
          simp
      · simp only [ua_2]
        rw [if_neg (by omega), if_neg (by omega), if_neg (by omega), if_neg (by omega), if_neg (by omega), if_neg (by omega), if_neg (by omega), if_neg (by omega), if_neg (by omega)]
        exact x3 y' hy'
  refine key _ [] _ rfl eqx.rf (fun k y hk => by simp at hk) (fun y _ => ?_)
  show w.2 38 y = _ ∧ w.2 39 y = _ ∧ w.2 40 y = _
  rw [w1.2 38 (by decide), w1.2 39 (by decide), w1.2 40 (by decide)]
  exact ⟨rfl, rfl, rfl⟩
end
end
section
/-! fill(). -/
noncomputable def filT (s : SM) (t : Term) (e : Snap) : Term := rpT (s.1 16) (rlb e.1 (s.1 8).toNat) t
def filN (s : SM) (Sh : Int → Option Snap) (p : Int) : Nat := match Sh p with
  | none => 0
  | some e => (fl e.1).length
/-- why not: 1 a bad place, 2 no hole, 3 nothing there, 4 full; 0: it can be done -/
def filF (s : SM) (t : Term) (Sh : Int → Option Snap) (p : Int) : Nat := if 0 ≤ p ∧ p < 6 then (if s.2 9 (s.1 16) = 0 then (if filN s Sh p = 0 then 3 else if 60 < (fl t).length - 1 + filN s Sh p ∨ 3000 < s.1 8 + filN s Sh p then 4 else 0) else 2) else 1
/-- a done fill -/
def FDONE (s : SM) (t : Term) (K : List Snap) (e : Snap) (v : SM) : Prop := SX [8, 15, 16, 24, 35] [9, 10, 11, 12, 13, 14, 25, 26, 27, 28, 29, 42] s v ∧ (v.1 8 = s.1 8 + (fl e.1).length ∧ v.1 16 = s.1 8 ∧ v.1 35 = chg (s.1 35) 1) ∧ (∀ y, y < s.1 8 → v.2 9 y = s.2 9 y ∧ v.2 10 y = s.2 10 y ∧ v.2 11 y = s.2 11 y) ∧ (∀ (k : Nat) (x : Int), (fl e.1)[k]? = some x → v.2 9 (s.1 8 + k) = e.2.2 9 x ∧ v.2 10 (s.1 8 + k) = e.2.2 10 x ∧ v.2 11 (s.1 8 + k) = e.2.2 11 x) ∧ (∀ y, v.2 42 y = if y = s.1 16 then s.1 8 + 1 else s.2 42 y) ∧ KL v (push K (t, s)) ∧ AFT v (filT s t e) ∧ (∀ z, z < s.1 8 → v.2 12 z = s.2 12 z ∧ v.2 13 z = s.2 13 z) ∧ v.2 12 (s.1 8) = s.2 12 (s.1 16) ∧ v.2 13 (s.1 8) = s.2 13 (s.1 16)
section
variable {iv : List (Int × Int)} {L : Nat} {h0 : MH} {s : SM} {t : Term} {d : Nat}
theorem fill_ok {n p : Int} {F : Int → SM → Prop} {K : List Snap} {Sh : Int → Option Snap} (h : AFT s t) (hcm : CM n s) (hn : n ≤ 600) (hS : ShL s Sh) (hK : KL s K) (hD : 200 ≤ d) (H1 : filF s t Sh p = 1 → F (-1) s) (H2 : filF s t Sh p = 2 → F (-4) s) (H3 : filF s t Sh p = 3 → F (-3) (mtU s 1)) (H4 : ∀ w, filF s t Sh p = 4 → SX [] [] s w → F (-2) w) (H0 : ∀ e v, filF s t Sh p = 0 → Sh p = some e → FDONE s t K e v → F (s.1 8) v) : cm iv L h0 d 115 [vr 307, vi p] s (qi F) := by
  obtain ⟨d, rfl⟩ : ∃ k, d = k + 2 := ⟨d - 2, by omega⟩
  obtain ⟨h, hN, hc⟩ := h
  have hct := h.lt hc
  have h8 := h.2.2.2.2.1
  have hll := h.2.2.2.1
  have hlp := List.length_pos_of_mem hc
  have hNx := hN
  refine B115 ⟨fun hp => ⟨by omega, fun ho => ⟨by omega, fun e37 => ?_, fun e37 => meets_ok hcm hn (by decide) (H3 ?_)⟩, fun ho => H2 (by unfold filF; rw [if_pos (by omega), if_neg ho])⟩, fun hp => H1 (by unfold filF; rw [if_neg (by omega)])⟩
  · -- something is there
    obtain ⟨s1, s2⟩ := hS p hp.1 (by omega)
    cases hSp : Sh p with
    | none => exact absurd (s1 hSp) e37
    | some e =>
      obtain ⟨b1, b2, b3⟩ := s2 e hSp
      obtain ⟨b4, b5, b6, b7⟩ := b2
      have fn : filN s Sh p = (fl e.1).length := by unfold filN; rw [hSp]
      have lp := List.length_pos_of_mem (hd_mem _ b4)
      have fl4 : (60 < (fl t).length - 1 + (fl e.1).length ∨ 3000 < s.1 8 + (fl e.1).length) → filF s t Sh p = 4 := fun q => by
        unfold filF
        rw [if_pos (by omega), if_pos ho, fn, if_neg (by omega), if_pos q]
      refine nodes_ok h (by omega) (fun w w1 => ?_)
      rw [w1.2 37 (by decide), w1.1 8 (by decide), b1]
      refine ⟨by omega, by omega, fun q => H4 w (fl4 (by omega)) (SX_lay w1), fun q => ⟨by omega, fun q2 => ?_, fun q2 => H4 w (fl4 (by omega)) (SX_lay w1)⟩⟩
      have f0 : filF s t Sh p = 0 := by
        unfold filF
        rw [if_pos (by omega), if_pos ho, fn, if_neg (by omega), if_neg (by omega)]
      have hTw := h.x (SX_lay w1) (by decide) (by decide)
      refine beginAct_ok hTw (by omega) (fun y y1 y2 y3 => ?_)
      have y1 : eqx [18, 30, 31] [17, 32, 33, 34] s y := (w1.up (fun y q => by simp at q ⊢; omega) (fun y q => by simp at q ⊢; omega)).tr y1
      have y3 : AH y (t, s) := by
        obtain ⟨c1, c2, c3⟩ := y3
        refine ⟨c1, c2.trans (w1.1 16 (by decide)), fun k z hk => ?_⟩
        have := c3 k z hk
        rw [show ((t, w) : Snap).2.2 10 z = s.2 10 z from by show w.2 10 z = _; rw [w1.2 10 (by decide)], show ((t, w) : Snap).2.2 14 = s.2 14 from w1.2 14 (by decide)] at this
        exact this
      have y8 : y.1 8 = s.1 8 := y1.1 8 (by decide)
      have y16 : y.1 16 = s.1 16 := y1.1 16 (by decide)
      have hdp := dpt_len _ b4
      refine bornFrom_ok (z := e.2) (t := e.1) (D := d) (by omega) b4 b5 (fun k x hk => ?_) (by omega) (by show 0 ≤ y.1 8; omega) (by show y.1 8 + _ ≤ 3000; omega) (Int.le_refl 0) (by show (0 : Int) + _ ≤ 60; omega) (fun v hv => ?_)
      · obtain ⟨g1, g2⟩ := b3 k x hk
        show (y.2 38 (60 * p + (0 + (k : Int))) = _ ∧ y.2 39 (60 * p + (0 + (k : Int))) = _ ∧ y.2 40 (60 * p + (0 + (k : Int))) = _) ∧ _
        rw [y1.2 38 (by decide), y1.2 39 (by decide), y1.2 40 (by decide), Int.zero_add]
        exact ⟨g1, g2.2.2.2.2.1, g2.2.2.2.2.2⟩
      · obtain ⟨v1, v2, v3, v4, v5, v6⟩ := hv
        have v1 : v.1 8 = s.1 8 + (fl e.1).length := by rw [v1]; show y.1 8 + _ = _; rw [y8]
        have v3 : ATs v (rlb e.1 (s.1 8).toNat) := by have := v3; rw [show (us y 41 0).1 8 = s.1 8 from y8] at this; exact this
        have v4 : OLD (fun z => z < s.1 8) y v := fun z hz => v4 z (by show z < y.1 8; rw [y8]; exact hz)
        have v5' : eqx [8, 41] [9, 10, 11, 12, 13, 14] y v := (eqx_us (s := y) (t := y) eqx.rf (y := 41) (z := 0) (by decide)).tr (v5.up (fun y q => q) (fun y q => by simp at q ⊢; omega))
        have v6 : ∀ (k : Nat) (x : Int), (fl e.1)[k]? = some x → v.2 9 (s.1 8 + k) = e.2.2 9 x ∧ v.2 10 (s.1 8 + k) = e.2.2 10 x ∧ v.2 11 (s.1 8 + k) = e.2.2 11 x := fun k x hk => by
          have := v6 k x hk
          rw [show (us y 41 0).1 8 = s.1 8 from y8] at this
          exact this
        have o12 : ∀ z, z < s.1 8 → v.2 12 z = s.2 12 z ∧ v.2 13 z = s.2 13 z := fun z hz => by
          have := (v4 z hz).2.1
          rw [this.1, this.2, y1.2 12 (by decide), y1.2 13 (by decide)]
          exact ⟨rfl, rfl⟩
        have o9 : ∀ z, z < s.1 8 → v.2 9 z = s.2 9 z ∧ v.2 10 z = s.2 10 z ∧ v.2 11 z = s.2 11 z := fun z hz => by
          have := (v4 z hz).1
          rw [this.1, this.2.1, this.2.2, y1.2 9 (by decide), y1.2 10 (by decide), y1.2 11 (by decide)]
          exact ⟨rfl, rfl, rfl⟩
        have o14 : ∀ z i, 0 ≤ i → i < 3 → z < s.1 8 → v.2 14 (3 * z + i) = s.2 14 (3 * z + i) := fun z i i0 i3 hz => by
          rw [(v4 z hz).2.2 i i0 i3, y1.2 14 (by decide)]
        have u16 : (us y 41 0).1 8 = s.1 8 := y8
        rw [y16, u16]
        have hc12 := o12 _ hct.2.1
        have hup := up_in h hc
        refine replace_ok (by omega) (by rw [hc12.1, hc12.2]; exact hup) (by omega) ⟨by omega, by omega, ?_⟩
        obtain ⟨r1, r2, r3, r4, r5⟩ := replU_in (s1 := v) (b := s.1 8) h hc hc12.1 hc12.2
        have E9 : (replU v (s.1 16) (s.1 8)).2 9 = v.2 9 := replU_e.2 9 (by decide)
        have E10 : (replU v (s.1 16) (s.1 8)).2 10 = v.2 10 := replU_e.2 10 (by decide)
        have E11 : (replU v (s.1 16) (s.1 8)).2 11 = v.2 11 := replU_e.2 11 (by decide)
        have E8 : (replU v (s.1 16) (s.1 8)).1 8 = v.1 8 := replU_e.1 8 (by decide)
        have f9 : (us (ua (replU v (s.1 16) (s.1 8)) 42 (s.1 16) (s.1 8 + 1)) 16 (s.1 8)).2 9 = v.2 9 := by
          rw [us_2]; funext z; rw [ua_2, if_neg (by omega), E9]
        have f10 : (us (ua (replU v (s.1 16) (s.1 8)) 42 (s.1 16) (s.1 8 + 1)) 16 (s.1 8)).2 10 = v.2 10 := by
          rw [us_2]; funext z; rw [ua_2, if_neg (by omega), E10]
        have f11 : (us (ua (replU v (s.1 16) (s.1 8)) 42 (s.1 16) (s.1 8 + 1)) 16 (s.1 8)).2 11 = v.2 11 := by
          rw [us_2]; funext z; rw [ua_2, if_neg (by omega), E11]
        have fo : ∀ f, f ≠ 42 → (us (ua (replU v (s.1 16) (s.1 8)) 42 (s.1 16) (s.1 8 + 1)) 16 (s.1 8)).2 f = (replU v (s.1 16) (s.1 8)).2 f := fun f hf => by
          rw [us_2]; funext z; rw [ua_2, if_neg (fun q => hf q.1)]
        obtain ⟨l1, l2, l3⟩ := rlb_fl e.1 (s.1 8).toNat b4
        have l2 : hd (rlb e.1 (s.1 8).toNat) = s.1 8 := by rw [l2]; omega
        have hub : 3 * s.2 12 (s.1 16) + s.2 13 (s.1 16) < 3 * s.1 8 := by
          by_cases q : s.1 16 = hd t
          · have q1 := h.2.2.2.2.2.2.1
            have q2 := h.2.2.2.2.2.2.2
            rw [← q] at q1 q2
            omega
          · obtain ⟨u1, u2, u3⟩ := (AT_mem t h.1 _ hc).2.2.2 q
            have := h.lt u1
            have := pO_in (s.2 9 (s.2 12 (s.1 16)))
            omega
        have hl := len_rp h hc (rlb e.1 (s.1 8).toNat)
        have lfl : (fl (rlb e.1 (s.1 8).toNat)).length = (fl e.1).length := by rw [l1]; simp
        have hsp := sq_pos h hc
        rw [lfl] at hl
        have aft : AFT (us (ua (replU v (s.1 16) (s.1 8)) 42 (s.1 16) (s.1 8 + 1)) 16 (s.1 8)) (filT s t e) := by
          refine ⟨SHT_rp (w := us (ua (replU v (s.1 16) (s.1 8)) 42 (s.1 16) (s.1 8 + 1)) 16 (s.1 8)) h hc ⟨?_, ?_⟩ ?_ ?_ (rlb_nd b4) (fun z hz hzt => ?_) (fun z hz hzn => ?_) ?_ ?_ ?_ (by omega), NB_new hN ?_ (fun z z0 z1 => ?_) (fun z z0 z1 => ?_), ?_⟩
          · show s.1 8 ≤ (replU v (s.1 16) (s.1 8)).1 8; omega
          · show (replU v (s.1 16) (s.1 8)).1 8 ≤ 3000; omega
          · refine AT_cg (by show v.1 8 ≤ (replU v (s.1 16) (s.1 8)).1 8; omega) _ v3 (rlb_nd b4) (fun z hz => ⟨by rw [f9], fun i i0 i1 _ => ?_⟩) (fun z hz hne => ?_)
            · have hz2 := rlb_at b4 hz
              have := pO_in (v.2 9 z)
              rw [fo 14 (by decide)]
              exact r5 _ (by omega)
            · rw [l2] at hne
              rw [fo 12 (by decide), fo 13 (by decide)]
              exact r4 z hne
          · show na (rlb e.1 (s.1 8).toNat) = pO ((us (ua (replU v (s.1 16) (s.1 8)) 42 (s.1 16) (s.1 8 + 1)) 16 (s.1 8)).2 9 (hd (rlb e.1 (s.1 8).toNat)))
            rw [l3, l2, f9]
            obtain ⟨r, er⟩ := fl_hd _ b4
            have := (v6 0 (hd e.1) (by rw [er]; rfl)).1
            rw [show s.1 8 + ((0 : Nat) : Int) = s.1 8 by omega] at this
            rw [this]
            exact b5
          · have := rlb_at b4 hz
            have := h.lt hzt
            omega
          · have hzl := h.lt hz
            rw [f9, fo 12 (by decide), fo 13 (by decide), fo 14 (by decide)]
            have q1 := r4 z (by omega)
            have q2 := o12 z hzl.2.1
            exact ⟨(o9 z hzl.2.1).1, q1.1.trans q2.1, q1.2.trans q2.2, fun i i0 i3 hi => (r5 _ hi).trans (o14 z i i0 i3 hzl.2.1)⟩
          · rw [fo 12 (by decide), fo 13 (by decide), l2]; exact r1
          · intro q
            rw [fo 14 (by decide), l2]; exact r2 q
          · rw [l2]
            show (replU v (s.1 16) (s.1 8)).1 15 = _
            rw [r3, v5'.1 15 (by decide), y1.1 15 (by decide)]
          · exact (replU_e.1 2 (by decide)).trans ((v5'.1 2 (by decide)).trans (y1.1 2 (by decide)))
          · rw [f9, f10, f11]; exact o9 z z1
          · have z1 : z < (replU v (s.1 16) (s.1 8)).1 8 := z1
            have hk : (z - s.1 8).toNat < (fl e.1).length := by omega
            have g := v6 _ _ (List.getElem?_eq_getElem hk)
            rw [show s.1 8 + (((z - s.1 8).toNat : Nat) : Int) = z by omega] at g
            obtain ⟨-, g2⟩ := b3 _ _ (List.getElem?_eq_getElem hk)
            unfold nodOk
            rw [f9, f10, f11, g.1, g.2.1, g.2.2, show (us (ua (replU v (s.1 16) (s.1 8)) 42 (s.1 16) (s.1 8 + 1)) 16 (s.1 8)).1 2 = s.1 2 from (replU_e.1 2 (by decide)).trans ((v5'.1 2 (by decide)).trans (y1.1 2 (by decide)))]
            exact ⟨g2.1, g2.2.1, g2.2.2.1, g2.2.2.2.1⟩
          · show s.1 8 ∈ _
            have hm := hd_mem _ v3
            rw [l2] at hm
            exact hl.2 _ hm
        have XE : eqx [8, 15, 16, 41] [9, 10, 11, 12, 13, 14, 36, 42] y (us (ua (replU v (s.1 16) (s.1 8)) 42 (s.1 16) (s.1 8 + 1)) 16 (s.1 8)) :=
          eqx_us (eqx_ua ((v5'.up (fun y q => by simp at q ⊢; omega) (fun y q => by simp at q ⊢; omega)).tr (replU_e.up (fun y q => by simp at q ⊢; omega) (fun y q => by simp at q ⊢; omega))) (by decide)) (by decide)
        refine act_end (s' := us (ua (replU v (s.1 16) (s.1 8)) 42 (s.1 16) (s.1 8 + 1)) 16 (s.1 8)) h hN hc hK y1 y3 XE ?_ ?_ SX.rf (fun u u1 u2 => H0 e u f0 hSp ⟨?_, ⟨?_, ?_, ?_⟩, ?_, ?_, ?_, u2, ?_, ?_, ?_⟩)
        · show s.1 8 ≤ (replU v (s.1 16) (s.1 8)).1 8; omega
        · intro z _ z1
          rw [f9]; exact (o9 z z1).1
        · refine SX.tr (SX.eq y1 (by decide) (by decide)) (SX.tr (SX.eq XE (by decide) (by decide)) ((SX.eq (s := us (ua (replU v (s.1 16) (s.1 8)) 42 (s.1 16) (s.1 8 + 1)) 16 (s.1 8)) (eqx_us eqx.rf (ys := [35]) (fs := []) (y := 35) (z := chg (s.1 35) 1) (by decide)) (by decide) (by decide)).tr (u1.up (by decide) (by decide))))
        · rw [u1.1 8 (by decide) (by decide)]
          show (replU v (s.1 16) (s.1 8)).1 8 = _
          omega
        · rw [u1.1 16 (by decide) (by decide)]; rfl
        · rw [u1.1 35 (by decide) (by decide)]; rfl
        · intro z z1
          have hi : ∀ f, f = 9 ∨ f = 10 ∨ f = 11 → ¬ scI f z := fun f q => by unfold scI; omega
          rw [u1.2 9 (by decide) (by decide) z (hi 9 (by decide)), u1.2 10 (by decide) (by decide) z (hi 10 (by decide)), u1.2 11 (by decide) (by decide) z (hi 11 (by decide)), us_2, f9, f10, f11]
          exact o9 z z1
        · intro k x hk
          have hkl := (List.getElem?_eq_some_iff.mp hk).1
          have hi : ∀ f, f = 9 ∨ f = 10 ∨ f = 11 → ¬ scI f (s.1 8 + k) := fun f q => by unfold scI; omega
          rw [u1.2 9 (by decide) (by decide) _ (hi 9 (by decide)), u1.2 10 (by decide) (by decide) _ (hi 10 (by decide)), u1.2 11 (by decide) (by decide) _ (hi 11 (by decide)), us_2, f9, f10, f11]
          exact v6 k x hk
        · intro z
          rw [u1.2 42 (by decide) (by decide) z (by unfold scI; omega), us_2, us_2, ua_2]
          by_cases q : z = s.1 16
          · rw [if_pos ⟨rfl, q⟩, if_pos q]
          · rw [if_neg (by omega), if_neg q, replU_e.2 42 (by decide), v5'.2 42 (by decide), y1.2 42 (by decide)]
        · exact AFT.x (ey := [24, 35]) (ef := [25, 26, 27, 28, 29]) aft (SX.tr (SX.eq (eqx_us eqx.rf (ys := [35]) (fs := []) (y := 35) (z := chg (s.1 35) 1) (by decide)) (by decide) (by decide)) (u1.up (by decide) (by decide))) (by decide) (by decide)
        · intro z z1
          have hi : ∀ f, f = 12 ∨ f = 13 → ¬ scI f z := fun f q => by unfold scI; omega
          rw [u1.2 12 (by decide) (by decide) z (hi 12 (by decide)), u1.2 13 (by decide) (by decide) z (hi 13 (by decide)), us_2, fo 12 (by decide), fo 13 (by decide)]
          have q1 := r4 z (by omega)
          have q2 := o12 z z1
          exact ⟨q1.1.trans q2.1, q1.2.trans q2.2⟩
        · have hpos : 0 < (fl e.1).length := by
            obtain ⟨r, er⟩ := fl_hd _ b4
            rw [er]; simp
          have hi : ∀ f, f = 12 ∨ f = 13 → ¬ scI f (s.1 8) := fun f q => by unfold scI; omega
          rw [u1.2 12 (by decide) (by decide) _ (hi 12 (by decide)), u1.2 13 (by decide) (by decide) _ (hi 13 (by decide)), us_2, fo 12 (by decide), fo 13 (by decide)]
          exact r1
  · unfold filF
    have : filN s Sh p = 0 := by
      unfold filN
      obtain ⟨s1, s2⟩ := hS p hp.1 (by omega)
      cases hSp : Sh p with
      | none => rfl
      | some e => have := (s2 e hSp).1; show (fl e.1).length = 0; omega
    rw [if_pos (by omega), if_pos ho, if_pos this]
end
end
section
/-! What judging comes to hangs on the tree alone. -/
theorem AT_un {so pa up pl so' pa' up' pl' : Int → Int} {B B' : Int} : ∀ (t : Term), AT so pa up pl B t → AT so' pa' up' pl' B' t → (∀ y, y ∈ fl t → y ≠ hd t → up' y = up y ∧ pl' y = pl y) ∧ ∀ y, y ∈ fl t → ∀ i, 0 ≤ i → i < pO (so y) → (y = hd t → i < na t) → pa' (3 * y + i) = pa (3 * y + i) := by
  intro t
  induction t with
  | index n =>
    intro _ _
    refine ⟨fun y hy hn => absurd (List.mem_singleton.mp hy) hn, fun y hy i i0 _ hi => ?_⟩
    have := hi (List.mem_singleton.mp hy)
    have : i < 0 := this
    omega
  | add t x ih ihx =>
    intro h h'
    obtain ⟨h1, h2, h3, h4, h5, h6, h7⟩ := h
    obtain ⟨k1, k2, k3, k4, k5, k6, k7⟩ := h'
    obtain ⟨a1, a2⟩ := ih h1 k1
    obtain ⟨b1, b2⟩ := ihx h2 k2
    refine ⟨fun y hy hn => ?_, fun y hy i i0 ip hi => ?_⟩
    · rcases List.mem_append.mp hy with q | q
      · exact a1 y q hn
      · by_cases e : y = hd x
        · rw [e, h6, h7, k6, k7]; exact ⟨rfl, rfl⟩
        · exact b1 y q e
    · rcases List.mem_append.mp hy with q | q
      · by_cases e : y = hd t
        · by_cases e2 : i = na t
          · rw [e, e2, h5, k5]
          · refine a2 y q i i0 ip (fun _ => ?_)
            have hi : i < na t + 1 := hi e
            omega
        · exact a2 y q i i0 ip (fun q => absurd q e)
      · refine b2 y q i i0 ip (fun e => ?_)
        rw [h3, ← e]
        exact ip
  | _ => intro h; exact h.elim
/-- a tree, wherever births are -/
def SHW (s : SM) (t : Term) : Prop := AT (s.2 9) (s.2 14) (s.2 12) (s.2 13) 3004 t ∧ full (s.2 9) t ∧ (fl t).Nodup ∧ hd t = s.1 15 ∧ s.2 12 (hd t) = -9 ∧ s.2 13 (hd t) = -9
theorem SHT.w {s : SM} {t : Term} (h : SHT s t) : SHW s t := ⟨AT_B (by have := h.2.2.2.2.1; omega) t h.1, h.2.1, h.2.2.1, h.2.2.2.2.2.1, h.2.2.2.2.2.2.1, h.2.2.2.2.2.2.2⟩
theorem SHW.ul {s w : SM} {t : Term} (h : SHW s t) (h' : SHW w t) {y : Int} (hy : y ∈ fl t) : w.2 12 y = s.2 12 y ∧ w.2 13 y = s.2 13 y := by
  by_cases e : y = hd t
  · rw [e, h.2.2.2.2.1, h'.2.2.2.2.1, h.2.2.2.2.2, h'.2.2.2.2.2]; exact ⟨rfl, rfl⟩
  · exact (AT_un t h.1 h'.1).1 y hy e
theorem SHW.pa {s w : SM} {t : Term} (h : SHW s t) (h' : SHW w t) {y i : Int} (hy : y ∈ fl t) (h0 : 0 ≤ i) (hi : i < pO (s.2 9 y)) : w.2 14 (3 * y + i) = s.2 14 (3 * y + i) :=
  (AT_un t h.1 h'.1).2 y hy i h0 hi (fun e => by have := h.2.1; unfold full at this; rw [this, ← e]; exact hi)
theorem SHW.up {s : SM} {t : Term} (h : SHW s t) {y : Int} (hy : y ∈ fl t) (hu : s.2 12 y ≠ -9) : s.2 12 y ∈ fl t := by
  refine ((AT_mem t h.1 y hy).2.2.2 (fun e => hu ?_)).1
  rw [e]
  exact h.2.2.2.2.1
theorem bnd_mem {s : SM} {t : Term} (h : SHW s t) {nu : Int → Int} : ∀ (n : Nat) (y x : Int), y ∈ fl t → bnd (s.2 9) nu (s.2 12) (s.2 13) n y x = -9 ∨ (bnd (s.2 9) nu (s.2 12) (s.2 13) n y x ∈ fl t ∧ (s.2 9 (bnd (s.2 9) nu (s.2 12) (s.2 13) n y x) = 8 ∨ s.2 9 (bnd (s.2 9) nu (s.2 12) (s.2 13) n y x) = 10)) := by
  intro n
  induction n with
  | zero => intro y x _; exact Or.inl rfl
  | succ n ih =>
    intro y x hy
    unfold bnd
    by_cases e : s.2 12 y = -9
    · rw [if_pos e]; exact Or.inl rfl
    · have hu := h.up hy e
      rw [if_neg e]
      by_cases e2 : (s.2 9 (s.2 12 y) = 8 ∨ (s.2 9 (s.2 12 y) = 10 ∧ s.2 13 y = 1)) ∧ nu (s.2 12 y) = x
      · rw [if_pos e2]; exact Or.inr ⟨hu, e2.1.imp id (fun q => q.1)⟩
      · rw [if_neg e2]; exact ih _ x hu
theorem bnd_cg {s w : SM} {t : Term} (h : SHW s t) (h' : SHW w t) {nu nu' : Int → Int} (h9 : ∀ y, y ∈ fl t → w.2 9 y = s.2 9 y) (hn : ∀ y, y ∈ fl t → s.2 9 y = 8 ∨ s.2 9 y = 10 → nu' y = nu y) : ∀ (n : Nat) (y x : Int), y ∈ fl t → bnd (w.2 9) nu' (w.2 12) (w.2 13) n y x = bnd (s.2 9) nu (s.2 12) (s.2 13) n y x := by
  intro n
  induction n with
  | zero => intro y x _; rfl
  | succ n ih =>
    intro y x hy
    unfold bnd
    obtain ⟨e1, e2⟩ := h.ul h' hy
    rw [e1, e2]
    by_cases e : s.2 12 y = -9
    · rw [if_pos e, if_pos e]
    · have hu := h.up hy e
      rw [if_neg e, if_neg e, h9 _ hu, ih _ x hu]
      by_cases e3 : s.2 9 (s.2 12 y) = 8 ∨ (s.2 9 (s.2 12 y) = 10 ∧ s.2 13 y = 1)
      · rw [hn _ hu (e3.imp id (fun q => q.1))]
      · rw [if_neg (fun q => e3 q.1), if_neg (fun q => e3 q.1)]
section
variable {so nu td pa : Int → Int} {kk : Int → Term} {bd : Int → Int → Int} {A : Option Term} {J : JT}
theorem jd_0 (b : Nat) : jd so nu td pa kk bd (.index b) A J = jen (so b) b A (if so b = 0 then (jin b A J, .null) else if so b = 1 then (jin b A J, .result) else if so b = 2 then (jin b A J, .thrown) else jnm so td pa kk (bd b (nu b)) b (jin b A J)) := rfl
theorem jd_1 (b : Nat) (x : Term) : jd so nu td pa kk bd (.add (.index b) x) A J = jen (so b) b A (
      if so b = 8 then jdf (jd so nu td pa kk bd x) b (kk (td b)) A (jin b A J)
      else if so b = 15 then ((jd so nu td pa kk bd x (some (kk (td b))) (jin b A J)).1, kk (td b))
      else jhf (jd so nu td pa kk bd x) (hd x) (so b) (jin b A J)) := rfl
theorem jd_2 (b : Nat) (x y : Term) : jd so nu td pa kk bd (.add (.add (.index b) x) y) A J = jen (so b) b A (
      if so b = 9 then jus (jd so nu td pa kk bd x) (jd so nu td pa kk bd y) (hd x) (jin b A J)
      else if so b = 10 then jd so nu td pa kk bd y A (jd so nu td pa kk bd x none (jin b A J)).1
      else if so b = 12 then jpr (jd so nu td pa kk bd x) (jd so nu td pa kk bd y) A (jin b A J)
      else ((jd so nu td pa kk bd y (some .result) (jd so nu td pa kk bd x (some .result) (jin b A J)).1).1, if so b = 7 then .thrown else .result)) := rfl
theorem jd_3 (b : Nat) (x y z : Term) : jd so nu td pa kk bd (.add (.add (.add (.index b) x) y) z) A J = jen (so b) b A (jpk (jd so nu td pa kk bd x) (jd so nu td pa kk bd y) (jd so nu td pa kk bd z) b A (jin b A J)) := rfl
end
/-- cells that agree where judging looks -/
theorem jd_cg {so nu td pa so' nu' td' pa' up pl : Int → Int} {kk kk' : Int → Term} {bd bd' : Int → Int → Int} {B : Int} (S : Int → Prop) (hs : ∀ x, S x → so' x = so x ∧ nu' x = nu x ∧ (so x = 8 ∨ so x = 15 → kk' (td' x) = kk (td x))) (hb : ∀ x y, S x → bd' x y = bd x y ∧ (bd x y = -9 ∨ (S (bd x y) ∧ (so (bd x y) = 8 ∨ pa' (3 * bd x y) = pa (3 * bd x y))))) : ∀ (n : Nat) (t : Term), dpt t ≤ n → AT so pa up pl B t → (∀ x, x ∈ fl t → S x) → jd so' nu' td' pa' kk' bd' t = jd so nu td pa kk bd t := by
  intro n
  induction n with
  | zero => intro t h; have := dpt_pos t; omega
  | succ n ih =>
    intro t hn hA hS
    funext A J
    cases t with
    | index b =>
      have hSb := hS b (List.mem_singleton.mpr rfl)
      obtain ⟨s1, s2, s3⟩ := hs b hSb
      rw [jd_0, jd_0, s1, s2]
      obtain ⟨b1, b2⟩ := hb b (nu b) hSb
      rw [b1]
      have : jnm so' td' pa' kk' (bd b (nu b)) b (jin b A J) = jnm so td pa kk (bd b (nu b)) b (jin b A J) := by
        unfold jnm
        by_cases e4 : bd b (nu b) = -9
        · rw [if_pos e4, if_pos e4]
        · obtain ⟨b3, b4⟩ := b2.resolve_left e4
          obtain ⟨u1, u2, u3⟩ := hs _ b3
          rw [if_neg e4, if_neg e4, u1]
          by_cases e5 : so (bd b (nu b)) = 8
          · rw [if_pos e5, if_pos e5, u3 (Or.inl e5)]
          · rw [if_neg e5, if_neg e5, b4.resolve_left e5]
      rw [this]
    | add t1 y =>
      have hd1 : dpt (Term.add t1 y) = max (dpt t1) (dpt y + 1) := rfl
      have fy := ih y (by omega) hA.2.1 (fun x hx => hS x (List.mem_append_right _ hx))
      cases t1 with
      | index b =>
        obtain ⟨s1, s2, s3⟩ := hs b (hS b (List.mem_append_left _ (List.mem_singleton.mpr rfl)))
        rw [jd_1, jd_1, s1, fy]
        by_cases e8 : so b = 8
        · rw [if_pos e8, if_pos e8, s3 (Or.inl e8)]
        · by_cases e15 : so b = 15
          · rw [if_neg e8, if_neg e8, if_pos e15, if_pos e15, s3 (Or.inr e15)]
          · rw [if_neg e8, if_neg e8, if_neg e15, if_neg e15]
      | add t2 z =>
        have hd2 : dpt (Term.add t2 z) = max (dpt t2) (dpt z + 1) := rfl
        have fz := ih z (by omega) hA.1.2.1 (fun x hx => hS x (List.mem_append_left _ (List.mem_append_right _ hx)))
        cases t2 with
        | index b =>
          obtain ⟨s1, s2, s3⟩ := hs b (hS b (List.mem_append_left _ (List.mem_append_left _ (List.mem_singleton.mpr rfl))))
          rw [jd_2, jd_2, s1, fy, fz]
        | add t3 v =>
          have hd3 : dpt (Term.add t3 v) = max (dpt t3) (dpt v + 1) := rfl
          have fv := ih v (by omega) hA.1.1.2.1 (fun x hx => hS x (List.mem_append_left _ (List.mem_append_left _ (List.mem_append_right _ hx))))
          cases t3 with
          | index b =>
            obtain ⟨s1, s2, s3⟩ := hs b (hS b (List.mem_append_left _ (List.mem_append_left _ (List.mem_append_left _ (List.mem_singleton.mpr rfl)))))
            rw [jd_3, jd_3, s1, fy, fz, fv]
          | _ => rfl
        | _ => rfl
      | _ => rfl
    | _ => exact hA.elim
/-- two states with one tree, and nodes alike -/
theorem jdg_un {s w : SM} {t : Term} (h : SHW s t) (h' : SHW w t) (hn : ∀ x, x ∈ fl t → w.2 9 x = s.2 9 x ∧ w.2 10 x = s.2 10 x ∧ w.2 11 x = s.2 11 x) (hk : ∀ x, x ∈ fl t → (s.2 9 x = 8 ∨ s.2 9 x = 15) → kks w (s.2 11 x) = kks s (s.2 11 x)) : jdg w t = jdg s t := by
  unfold jdg jds
  rw [jd_cg (so := s.2 9) (nu := s.2 10) (td := s.2 11) (pa := s.2 14) (kk := kks s) (bd := bds s) (fun x => x ∈ fl t) (fun x hx => ?_) (fun x y hx => ?_) (dpt t) t (Nat.le_refl _) h.1 (fun x hx => hx)]
  · obtain ⟨a1, a2, a3⟩ := hn x hx
    exact ⟨a1, a2, fun q => by rw [a3]; exact hk x hx q⟩
  · have e : bds w x y = bds s x y := bnd_cg h h' (fun z hz => (hn z hz).1) (fun z hz _ => (hn z hz).2.1) 70 x y hx
    refine ⟨e, (bnd_mem h (nu := s.2 10) 70 x y hx).imp id (fun q => ⟨q.1, ?_⟩)⟩
    rcases q.2 with q2 | q2
    · exact Or.inl q2
    · right
      have := h.pa h' q.1 (Int.le_refl 0) (show (0 : Int) < pO (s.2 9 (bds s x y)) from by rw [show s.2 9 (bds s x y) = 10 from q2]; decide)
      rw [Int.add_zero] at this
      exact this
theorem kks_ag {s w : SM} {n : Int} (hK : KIs s) (h2 : s.1 2 ≤ w.1 2) (he : ∀ k, k < s.1 2 → w.2 4 k = s.2 4 k ∧ w.2 5 k = s.2 5 k ∧ w.2 6 k = s.2 6 k) : ∀ k, 0 ≤ k → k < s.1 2 → kks w k = kks s k := by
  have key : ∀ (q : Nat) (k : Int), 0 ≤ k → k < s.1 2 → kd (w.2 4) (w.2 5) (w.2 6) q k = kd (s.2 4) (s.2 5) (s.2 6) q k := by
    intro q
    induction q with
    | zero => intro k _ _; rfl
    | succ q ih =>
      intro k k0 k1
      obtain ⟨e1, e2, e3⟩ := he k k1
      rw [kd_s, kd_s, e1, e2, e3]
      by_cases h3 : k < 3
      · have := (hK.2.1 k k0 h3).1
        have hk : s.2 4 k = 0 ∨ s.2 4 k = 1 ∨ s.2 4 k = 2 := by omega
        rcases hk with e | e | e <;> rw [e] <;> rfl
      · obtain ⟨q1, q2, q3, q4, q5⟩ := hK.2.2 k (by omega) k1
        rw [ih _ q2.1 (by omega), ih _ q3.1 (by omega)]
  intro k k0 k1
  unfold kks
  rw [if_pos (show 0 ≤ k ∧ k < w.1 2 by omega), if_pos (show 0 ≤ k ∧ k < s.1 2 by omega)]
  exact key 40 k k0 k1
theorem jdg_x {ey ef : List Nat} {s w : SM} {t : Term} (h : SHT s t) (h' : SHT w t) (hN : NB s) (hK : KIs s) (hx : SX ey ef s w) (hy : 2 ∉ ey) (hf : (4 ∉ ef ∧ 5 ∉ ef ∧ 6 ∉ ef) ∧ 9 ∉ ef ∧ 10 ∉ ef ∧ 11 ∉ ef) : jdg w t = jdg s t := by
  have k3 := hK.1
  refine jdg_un h.w h'.w (fun x hx2 => ?_) (fun x hx2 q => ?_)
  · have := h.lt hx2
    exact ⟨hx.2 9 (by decide) hf.2.1 x (by unfold scI; omega), hx.2 10 (by decide) hf.2.2.1 x (by unfold scI; omega), hx.2 11 (by decide) hf.2.2.2 x (by unfold scI; omega)⟩
  · have := h.lt hx2
    have := (hN x this.1 this.2.1).2.2.2 q
    exact kks_ag (n := 0) hK (by rw [hx.1 2 (by decide) hy]; exact Int.le_refl _) (fun k hk => ⟨hx.2 4 (by decide) hf.1.1 k (by unfold scI; omega), hx.2 5 (by decide) hf.1.2.1 k (by unfold scI; omega), hx.2 6 (by decide) hf.1.2.2 k (by unfold scI; omega)⟩) _ this.1 this.2
end
section
/-! What may fill a hole. -/
theorem SHW_rp {s w : SM} {t u : Term} {c : Int} (h : SHT s t) (hc : c ∈ fl t) (hu : AT (w.2 9) (w.2 14) (w.2 12) (w.2 13) 3004 u) (hf : full (w.2 9) u) (hnd : (fl u).Nodup) (hdis : ∀ y, y ∈ fl u → y ∈ fl t → y ∈ fl (sq c t))
    (hs : ∀ y, y ∈ fl t → y ∉ fl (sq c t) → w.2 9 y = s.2 9 y ∧ w.2 12 y = s.2 12 y ∧ w.2 13 y = s.2 13 y ∧ ∀ i, 0 ≤ i → i < 3 → 3 * y + i ≠ 3 * s.2 12 c + s.2 13 c → w.2 14 (3 * y + i) = s.2 14 (3 * y + i))
    (hup : w.2 12 (hd u) = s.2 12 c ∧ w.2 13 (hd u) = s.2 13 c) (hpa : c ≠ hd t → w.2 14 (3 * s.2 12 c + s.2 13 c) = hd u) (htop : w.1 15 = if c = hd t then hd u else s.1 15) : SHW w (rpT c u t) := by
  obtain ⟨h1, h2, h3, h4, h5, h6, h7, h8⟩ := h
  have hnd2 : (fl (rpT c u t)).Nodup := by
    obtain ⟨a, z, e1, e2, -⟩ := rpT_fl h1 h3 hc
    rw [e2]
    rw [e1] at h3
    obtain ⟨n1, n2, n3⟩ := List.nodup_append.mp h3
    obtain ⟨n4, n5, n6⟩ := List.nodup_append.mp n2
    refine List.nodup_append.mpr ⟨n1, List.nodup_append.mpr ⟨hnd, n5, fun x hx y hy e => ?_⟩, fun x hx y hy e => ?_⟩
    · subst e
      have := hdis x hx (by rw [e1]; simp [hy])
      exact n6 x this x hy rfl
    · subst e
      rcases List.mem_append.mp hy with hy | hy
      · have := hdis x hy (by rw [e1]; simp [hx])
        exact n3 x hx x (List.mem_append_left _ this) rfl
      · exact n3 x hx x (List.mem_append_right _ hy) rfl
  by_cases e : hd t = c
  · have er : rpT c u t = u := if_pos e
    rw [er] at hnd2 ⊢
    rw [if_pos e.symm] at htop
    rw [← e, h7, h8] at hup
    exact ⟨hu, hf, hnd2, htop.symm, hup.1, hup.2⟩
  · have er : rpT c u t = rp c u t := if_neg e
    have es : sq c t = sb c t := if_neg e
    rw [es] at hs hdis
    rw [er] at hnd2 ⊢
    rw [if_neg (Ne.symm e)] at htop
    obtain ⟨q1, q2⟩ := rp_hd (x := c) (u := u) t
    obtain ⟨b1, b2, b3, b4, b5, b6⟩ := sb_ok t h1 h3 hc (Ne.symm e)
    have ht := hd_mem t h1
    have hst := hs _ ht b5
    refine ⟨AT_rp (show s.1 8 ≤ 3004 by omega) hu hf t h1 h3 hc (Ne.symm e) (fun y hy hn => ⟨(hs y hy hn).1, fun i i0 i1 _ ne => (hs y hy hn).2.2.2 i i0 (by have := pO_in (s.2 9 y); omega) ne⟩) (fun y hy hn _ => ⟨(hs y hy hn).2.1, (hs y hy hn).2.2.1⟩) (hpa (Ne.symm e)) hup.1 hup.2, ?_, hnd2, ?_, ?_, ?_⟩
    · unfold full
      rw [q1, q2, hst.1]
      exact h2
    · rw [q1, htop]; exact h6
    · rw [q1, hst.2.1]; exact h7
    · rw [q1, hst.2.2.1]; exact h8
section
variable {iv : List (Int × Int)} {L : Nat} {h0 : MH} {s : SM} {t : Term} {d : Nat}
theorem judge_gen {F : SM → Prop} (h : SHW s t) (hl : (fl t).length ≤ 64) (htd : ∀ x, x ∈ fl t → s.2 9 x = 8 ∨ s.2 9 x = 15 → 0 ≤ s.2 11 x ∧ s.2 11 x < s.1 2) (hK : KIs s) (hD : 260 ≤ d) (hF : ∀ w, JW s w t → F w) : cm iv L h0 d 86 [vr 307] s (qv F) := by
  obtain ⟨d, rfl⟩ : ∃ k, d = k + 1 := ⟨d - 1, by omega⟩
  have hdp := dpt_len t h.1
  have htop := h.2.2.2.1
  have hT : PRT (us s 3 40) t := ⟨h.1, h.2.1, h.2.2.1, htd, fun x hx => DP_up _ _ _ (by omega) (AT_DP (Int.le_refl _) t 1 h.1 (Or.inl h.2.2.2.2.1) x hx)⟩
  have hKJ : KJs (us s 3 40) := ⟨hK, Int.le_refl 40, fun k k1 k2 => by exfalso; have : k < 40 := k2; omega⟩
  have hP : PRJ (us s 3 40) (hd t) (fl t) J0 (fun _ => False) := ⟨hKJ, fun x => Or.inl (by
    show bnd (s.2 9) (s.2 10) (s.2 12) (s.2 13) 70 (hd t) x = -9
    unfold bnd
    rw [if_pos h.2.2.2.2.1]), fun x q => q.elim, fun x q => q.elim⟩
  have := jsp_all (iv := iv) (L := L) (h0 := h0) (dpt t) t (us s 3 40) (-1) none J0 (fun _ => False) (Nat.le_refl _) hT hP rfl (by show (40 : Int) + _ ≤ 6000; omega)
  rw [htop] at this
  refine B86 (wci_mono this (by omega) ?_)
  rintro r w ⟨hX, hb, hr, hj⟩
  refine hF w ⟨?_, fun k hk => ?_, hX.2.1, ?_, ?_⟩
  · exact (eqx_us (s := s) (t := s) eqx.rf (y := 3) (z := 40) (by decide)).tr (hX.1.up (fun _ q => q) (fun f q => by simp at q ⊢; omega))
  · exact hX.2.2.1.2.2 k hk
  · intro x hx
    exact hj x (Or.inr hx)
  · have : w.1 3 ≤ 40 + 41 * (fl t).length := hb
    omega
/-- the sheet with a trial in the place of the hole -/
def ofX (s : SM) (so v : Int) : SM := hlsU 3000 (pO so).toNat 0 (replU (bornU (us s 8 3000) so v 0) (s.1 16) 3000)
noncomputable def ofT (s : SM) (t : Term) (so : Int) : Term := rpT (s.1 16) (adds (pO so).toNat 3001 (.index 3000)) t
noncomputable def ofB (s : SM) (t : Term) (so v : Int) : Bool := decide ((jdg (ofX s so v) (ofT s t so)).2.2 3000 = 0)
theorem of_ok {so v : Int} (h : AFT s t) (hK : KIs s) (ho : s.2 9 (s.1 16) = 0) (hso : 0 ≤ so ∧ so < 16) : SHW (ofX s so v) (ofT s t so) ∧ (fl (ofT s t so)).length ≤ 63 ∧ (3000 : Int) ∈ fl (ofT s t so) ∧ (∀ y, y ∈ fl (ofT s t so) → y ∈ fl t ∨ (3000 ≤ y ∧ y < 3004)) ∧ (∀ y, y < 3000 → (ofX s so v).2 9 y = s.2 9 y ∧ (ofX s so v).2 10 y = s.2 10 y ∧ (ofX s so v).2 11 y = s.2 11 y) ∧ ((ofX s so v).2 9 3000 = so ∧ (ofX s so v).2 10 3000 = nvl so v ∧ (ofX s so v).2 11 3000 = kvl so 0) ∧ (∀ y, 3001 ≤ y → y < 3001 + pO so → (ofX s so v).2 9 y = 0 ∧ (ofX s so v).2 10 y = -9 ∧ (ofX s so v).2 11 y = -9) ∧ (∀ y, y ∈ fl (ofT s t so) → y < 3001 + pO so) ∧ (∀ y, y < 3000 → (ofX s so v).2 12 y = s.2 12 y ∧ (ofX s so v).2 13 y = s.2 13 y ∧ ∀ i, 0 ≤ i → i < 3 → 3 * y + i ≠ 3 * s.2 12 (s.1 16) + s.2 13 (s.1 16) → (ofX s so v).2 14 (3 * y + i) = s.2 14 (3 * y + i)) ∧ (ofX s so v).2 12 3000 = s.2 12 (s.1 16) ∧ (ofX s so v).2 13 3000 = s.2 13 (s.1 16) ∧ eqx [8, 15] [9, 10, 11, 12, 13, 14] s (ofX s so v) ∧ ((ofX s so v).1 15 = if s.1 16 = hd t then 3000 else s.1 15) ∧ (s.2 12 (s.1 16) = -9 → ∀ j, (ofX s so v).2 14 j = s.2 14 j ∨ 9000 ≤ j) := by
  obtain ⟨h1, h2, h3⟩ := h
  have hpo := pO_in so
  have hll := h1.2.2.2.1
  have hB := h1.2.2.2.2.1
  have hct := h1.lt h3
  -- as if 3000 births were done
  have hS : SHT (us s 8 3000) t := ⟨AT_B (by show s.1 8 ≤ 3000; omega) t h1.1, h1.2.1, h1.2.2.1, hll, by show (0 : Int) ≤ 3000 ∧ (3000 : Int) ≤ 3000; decide, h1.2.2.2.2.2.1, h1.2.2.2.2.2.2.1, h1.2.2.2.2.2.2.2⟩
  obtain ⟨n1, n2, n3, n4, n5, n6, n7⟩ := new_in (so := so) (v := v) (k := 0) hS h3 hso
  have n1 : ATs (replU (bornU (us s 8 3000) so v 0) (s.1 16) 3000) (.index 3000) := n1
  have n2 : (replU (bornU (us s 8 3000) so v 0) (s.1 16) 3000).1 8 = 3001 := n2
  obtain ⟨q1, q2, q3, q4, q5, q6, q7⟩ := hlsU_ok (b := 3000) (pO so).toNat 0 (replU (bornU (us s 8 3000) so v 0) (s.1 16) 3000) (.index 3000) n1 (by simp [fl]) rfl rfl (by rw [show (replU (bornU (us s 8 3000) so v 0) (s.1 16) 3000).2 9 3000 = so from n3.1]; omega) (by omega)
  rw [n2] at q1 q2 q3 q4 q7
  have ah := adds_hd (pO so).toNat 3001 (.index 3000)
  have ah1 : hd (adds (pO so).toNat 3001 (.index 3000)) = 3000 := ah.1
  have hl := len_rp h1 h3 (adds (pO so).toNat 3001 (.index 3000))
  rw [adds_len] at hl
  have hsp := sq_pos h1 h3
  have f1 : (fl (Term.index 3000)).length = 1 := rfl
  have mem : ∀ y, y ∈ fl (adds (pO so).toNat 3001 (.index 3000)) → 3000 ≤ y ∧ y < 3001 + pO so := fun y hy => by
    rcases adds_mem hy with q | q
    · have : y = ((3000 : Nat) : Int) := List.mem_singleton.mp q
      omega
    · omega
  have memT : ∀ y, y ∈ fl (ofT s t so) → y ∈ fl t ∨ (3000 ≤ y ∧ y < 3001 + pO so) := fun y hy => by
    obtain ⟨a, z, e1, e2, -⟩ := rpT_fl h1.1 h1.2.2.1 h3
    unfold ofT at hy
    rw [e2] at hy
    rw [e1]
    rcases List.mem_append.mp hy with q | q
    · left; simp [q]
    · rcases List.mem_append.mp q with q | q
      · right; exact mem y q
      · left; simp [q]
  have old : ∀ y, y < 3000 → (ofX s so v).2 9 y = s.2 9 y ∧ (ofX s so v).2 10 y = s.2 10 y ∧ (ofX s so v).2 11 y = s.2 11 y := fun y y1 => by
    obtain ⟨⟨c1, c2, c3⟩, -⟩ := q4 y ⟨by omega, by omega⟩
    obtain ⟨⟨d1, d2, d3⟩, -⟩ := n4 y y1
    exact ⟨c1.trans d1, c2.trans d2, c3.trans d3⟩
  have lnk : ∀ y, y < 3000 → (ofX s so v).2 12 y = s.2 12 y ∧ (ofX s so v).2 13 y = s.2 13 y ∧ ∀ i, 0 ≤ i → i < 3 → 3 * y + i ≠ 3 * s.2 12 (s.1 16) + s.2 13 (s.1 16) → (ofX s so v).2 14 (3 * y + i) = s.2 14 (3 * y + i) := fun y y1 => by
    obtain ⟨-, ⟨c4, c5⟩, c6⟩ := q4 y ⟨by omega, by omega⟩
    obtain ⟨-, ⟨d4, d5⟩, d6⟩ := n4 y y1
    exact ⟨c4.trans d4, c5.trans d5, fun i i0 i3 hi => (c6 i i0 i3).trans (d6 i hi)⟩
  have u12 : (ofX s so v).2 12 3000 = s.2 12 (s.1 16) := q6.2.2.2.1.trans n5.1
  have u13 : (ofX s so v).2 13 3000 = s.2 13 (s.1 16) := q6.2.2.2.2.trans n5.2
  have x15 : (ofX s so v).1 15 = if s.1 16 = hd t then 3000 else s.1 15 := (q5.1 15 (by decide)).trans n7
  refine ⟨SHW_rp (w := ofX s so v) h1 h3 (AT_B (by show (ofX s so v).1 8 ≤ 3004; show (hlsU 3000 _ 0 _).1 8 ≤ 3004; omega) _ q1) ?_ q2 (fun y hy hyt => ?_) (fun y hy hyn => ?_) ?_ (fun q => ?_) ?_, ?_, ?_, fun y hy => ?_, old, ⟨q6.1.trans n3.1, q6.2.1.trans n3.2.1, q6.2.2.1.trans n3.2.2⟩, fun y y0 y1 => q7 y y0 (by omega), fun y hy => ?_, lnk, u12, u13, ?_, x15, fun q j => ?_⟩
  · show na (adds _ 3001 (.index 3000)) = pO ((ofX s so v).2 9 (hd (adds _ 3001 (.index 3000))))
    rw [ah.2, ah1]
    have : (ofX s so v).2 9 3000 = so := q6.1.trans n3.1
    rw [this]
    show (0 : Int) + _ = _
    omega
  · have := mem y hy
    have := h1.lt hyt
    omega
  · have hy2 := h1.lt hy
    have l := lnk y hy2.2.2
    exact ⟨(old y hy2.2.2).1, l.1, l.2.1, l.2.2⟩
  · rw [ah1]; exact ⟨u12, u13⟩
  · rw [ah1]
    obtain ⟨u1, u2, u3⟩ := (AT_mem t h1.1 _ h3).2.2.2 q
    have ul := h1.lt u1
    have := pO_in (s.2 9 (s.2 12 (s.1 16)))
    exact ((q4 (s.2 12 (s.1 16)) ⟨by omega, by omega⟩).2.2 _ u2.1 (by omega)).trans (n6 q)
  · rw [ah1]; exact x15
  · show (fl (rpT _ _ _)).length ≤ 63
    omega
  · refine hl.2 _ ?_
    have := hd_mem _ q1
    rw [show hd (adds (pO so).toNat (3001 : Int).toNat (.index 3000)) = 3000 from ah1] at this
    exact this
  · exact (memT y hy).imp id (fun q => by omega)
  · rcases memT y hy with q | q
    · have := h1.lt q; omega
    · exact q.2
  · exact ((eqx_us (s := s) (t := s) eqx.rf (y := 8) (z := 3000) (ys := [8, 15]) (fs := [9, 10, 11, 12, 13, 14]) (by decide)).tr ((bornU_e.up (fun y q => by simp at q ⊢; omega) (fun y q => by simp at q ⊢; omega)).tr (replU_e.up (fun y q => by simp at q ⊢; omega) (fun y q => by simp at q ⊢; omega)))).tr (q5.up (fun y q => by simp at q ⊢; omega) (fun y q => q))
  · by_cases hj : j < 9000
    · left
      have n8 := n2
      have := (q4 (j / 3) ⟨by omega, by omega⟩).2.2 (j % 3) (by omega) (by omega)
      rw [show 3 * (j / 3) + j % 3 = j by omega] at this
      show (hlsU 3000 (pO so).toNat 0 (replU (bornU (us s 8 3000) so v 0) (s.1 16) 3000)).2 14 j = s.2 14 j
      rw [this]
      unfold replU
      rw [show (bornU (us s 8 3000) so v 0).2 12 (s.1 16) = -9 from by rw [bornU_e.2 12 (by decide)]; exact q, if_pos rfl]
      simp only [ua_2, us_2]
      rw [if_neg (by omega), if_neg (by omega), bornU_e.2 14 (by decide)]
      rfl
    · right; omega
theorem of_td {so v : Int} (h : AFT s t) (hK : KIs s) (ho : s.2 9 (s.1 16) = 0) (hso : 0 ≤ so ∧ so < 16) : ∀ x, x ∈ fl (ofT s t so) → (ofX s so v).2 9 x = 8 ∨ (ofX s so v).2 9 x = 15 → 0 ≤ (ofX s so v).2 11 x ∧ (ofX s so v).2 11 x < s.1 2 := fun x hx q => by
  obtain ⟨o1, o2, o3, o4, o5, o6, o7, o8, o9, o10, o11, o12, o13, o14⟩ := of_ok (v := v) h hK ho hso
  have k3 := hK.1
  rcases o4 x hx with e | e
  · have hl := h.1.lt e
    obtain ⟨e1, e2, e3⟩ := o5 x hl.2.2
    rw [e1] at q
    rw [e3]
    exact (h.2.1 x hl.1 hl.2.1).2.2.2 q
  · by_cases e3 : x = 3000
    · subst e3
      rw [o6.1] at q
      rw [o6.2.2]
      unfold kvl
      rw [if_pos q]
      omega
    · have := o7 x (by omega) (o8 x hx)
      omega
/-- what is made of a trial hangs on the sheet alone -/
theorem ofB_x {w : SM} {so v : Int} (h : AFT s t) (hK : KIs s) (ho : s.2 9 (s.1 16) = 0) (hx : SX [] [] s w) (hso : 0 ≤ so ∧ so < 16) : ofB w t so v = ofB s t so v := by
  have h8 := h.1.2.2.2.2.1.2
  have hw := h.x hx (by decide) (by decide)
  have hKw := KI_x hK hx (by decide) (by decide)
  have e16 : w.1 16 = s.1 16 := hx.1 16 (by decide) (by decide)
  have hcl := h.1.lt h.2.2
  have how : w.2 9 (w.1 16) = 0 := by rw [e16, hx.2 9 (by decide) (by decide) _ (by unfold scI; omega)]; exact ho
  obtain ⟨o1, o2, o3, o4, o5, o6, o7, o8, o9, o10, o11, o12, o13, o14⟩ := of_ok (v := v) h hK ho hso
  obtain ⟨p1, p2, p3, p4, p5, p6, p7, p8, p9, p10, p11, p12, p13, p14⟩ := of_ok (v := v) hw hKw how hso
  have eT : ofT w t so = ofT s t so := by unfold ofT; rw [e16]
  rw [eT] at p1
  have k3 := hK.1
  unfold ofB
  rw [eT, jdg_un o1 p1 (fun x hx2 => ?_) (fun x hx2 q => ?_)]
  · rcases o4 x hx2 with e | e
    · have hl := h.1.lt e
      obtain ⟨a1, a2, a3⟩ := o5 x hl.2.2
      obtain ⟨b1, b2, b3⟩ := p5 x hl.2.2
      rw [a1, a2, a3, b1, b2, b3]
      exact ⟨hx.2 9 (by decide) (by decide) x (by unfold scI; omega), hx.2 10 (by decide) (by decide) x (by unfold scI; omega), hx.2 11 (by decide) (by decide) x (by unfold scI; omega)⟩
    · by_cases e3 : x = 3000
      · subst e3
        rw [o6.1, o6.2.1, o6.2.2, p6.1, p6.2.1, p6.2.2]
        exact ⟨rfl, rfl, rfl⟩
      · obtain ⟨a1, a2, a3⟩ := o7 x (by omega) (o8 x hx2)
        obtain ⟨b1, b2, b3⟩ := p7 x (by omega) (o8 x hx2)
        rw [a1, a2, a3, b1, b2, b3]
        exact ⟨rfl, rfl, rfl⟩
  · have htd := of_td (v := v) h hK ho hso x hx2 q
    have kX : ∀ (u : SM), eqx [8, 15] [9, 10, 11, 12, 13, 14] u (ofX u so v) → kks (ofX u so v) = kks u := fun u hu => by
      funext k
      show (if 0 ≤ k ∧ k < (ofX u so v).1 2 then kt ((ofX u so v).2 4) ((ofX u so v).2 5) ((ofX u so v).2 6) k else Term.null) = _
      rw [hu.1 2 (by decide), hu.2 4 (by decide), hu.2 5 (by decide), hu.2 6 (by decide)]
      rfl
    rw [kX w p12, kX s o12]
    exact kks_ag (n := 0) hK (by rw [hx.1 2 (by decide) (by decide)]; exact Int.le_refl _) (fun k hk => ⟨hx.2 4 (by decide) (by decide) k (by unfold scI; omega), hx.2 5 (by decide) (by decide) k (by unfold scI; omega), hx.2 6 (by decide) (by decide) k (by unfold scI; omega)⟩) _ htd.1 htd.2
/-- rows alike, numbers too but for births -/
def E8 (x y : SM) : Prop := y.2 = x.2 ∧ ∀ k, k ≠ 8 → y.1 k = x.1 k
theorem isOffered_ok {so v : Int} {F : Int → SM → Prop} (h : AFT s t) (hK : KIs s) (ho : s.2 9 (s.1 16) = 0) (hso : 0 ≤ so ∧ so < 16) (hD : 300 ≤ d) (hF : ∀ w, SX [] [] s w → eqx [3, 15] [4, 5, 6, 7, 9, 10, 11, 12, 13, 14, 19, 20, 21] s w → F (if ofB s t so v then 1 else 0) w) : cm iv L h0 d 116 [vr 307, vi so, vi v] s (qi F) := by
  obtain ⟨d, rfl⟩ : ∃ k, d = k + 2 := ⟨d - 2, by omega⟩
  obtain ⟨o1, o2, o3, o4, o5, o6, o7, o8, o9, o10, o11, o12, o13, o14⟩ := of_ok (v := v) h hK ho hso
  have otd := of_td (v := v) h hK ho hso
  obtain ⟨h1, h2, h3⟩ := h
  have hct := h1.lt h3
  have h8 := h1.2.2.2.2.1
  have hpo := pO_in so
  have hup := up_in h1 h3
  -- the end
  have fin : ∀ y, E8 (ofX s so v) y → y.1 8 = s.1 8 → wm iv L h0 (d + 1 + 1) 116 26 [lr 307, li so, ln, li (s.1 16), li (pO so)] [] y (qi F) := fun y hy y8 => by
    obtain ⟨y2, y1⟩ := hy
    have yS : SHW y (ofT s t so) := by
      unfold SHW at o1 ⊢
      rw [y2, y1 15 (by decide)]
      exact o1
    have yK : KIs y := by
      show KI (y.1 2) (y.2 4) (y.2 5) (y.2 6) (y.2 7)
      rw [y2, y1 2 (by decide), o12.1 2 (by decide), o12.2 4 (by decide), o12.2 5 (by decide), o12.2 6 (by decide), o12.2 7 (by decide)]
      exact hK
    refine B116_26 ⟨by omega, fun _ => judge_gen yS (by omega) (fun x hx q => ?_) yK (by omega) (fun w hw => ?_), fun q => by omega⟩
    · rw [y2] at q ⊢
      rw [y1 2 (by decide), o12.1 2 (by decide)]
      exact otd x hx q
    · have eJ : jdg y (ofT s t so) = jdg (ofX s so v) (ofT s t so) := by
        unfold jdg
        rw [jds_e (by rw [y2]) (by rw [y2]) (by rw [y2]) (by rw [y2]) (by rw [y2]) (by rw [y2]) (y1 2 (by decide)) (fun k _ _ => by
          show kt (y.2 4) (y.2 5) (y.2 6) k = _
          rw [y2])]
      have e21 := (hw.2.2.2.1 3000 o3).2.2.1
      rw [eJ] at e21
      have w12 : w.2 12 = (ofX s so v).2 12 := (hw.1.2 12 (by decide)).trans (by rw [y2])
      have w13 : w.2 13 = (ofX s so v).2 13 := (hw.1.2 13 (by decide)).trans (by rw [y2])
      have w14 : w.2 14 = (ofX s so v).2 14 := (hw.1.2 14 (by decide)).trans (by rw [y2])
      have wr : ∀ f, f ≠ 4 ∧ f ≠ 5 ∧ f ≠ 6 ∧ f ≠ 7 ∧ f ≠ 19 ∧ f ≠ 20 ∧ f ≠ 21 → w.2 f = (ofX s so v).2 f := fun f hf => (hw.1.2 f (by simp; omega)).trans (by rw [y2])
      have wn : ∀ k, k ≠ 3 → k ≠ 8 → w.1 k = (ofX s so v).1 k := fun k k3 k8 => (hw.1.1 k (by simp; omega)).trans (y1 k k8)
      have rep : ∀ z : Int, z = (if ofB s t so v then 1 else 0) → cm iv L h0 (d + 1) 77 [vr 307, vi 3000, vi (s.1 16)] w (qv fun s3 => F z s3) := fun z hz => by
        refine replace_ok (by decide) (by rw [w12, w13, o10, o11]; exact hup) (by omega) ?_
        rw [hz]
        have e12 : w.2 12 3000 = s.2 12 (s.1 16) := by rw [w12]; exact o10
        have e13 : w.2 13 3000 = s.2 13 (s.1 16) := by rw [w13]; exact o11
        have Re : eqx [15] [12, 13, 14] w (replU w 3000 (s.1 16)) := replU_e
        have hub : s.1 16 ≠ hd t → 3 * s.2 12 (s.1 16) + s.2 13 (s.1 16) < 9000 ∧ s.2 14 (3 * s.2 12 (s.1 16) + s.2 13 (s.1 16)) = s.1 16 ∧ s.2 12 (s.1 16) ≠ -9 := fun q => by
          obtain ⟨u1, u2, u3⟩ := (AT_mem t h1.1 _ h3).2.2.2 q
          have := h1.lt u1
          have := pO_in (s.2 9 (s.2 12 (s.1 16)))
          exact ⟨by omega, u3, by omega⟩
        have r15 : (replU w 3000 (s.1 16)).1 15 = s.1 15 := by
          unfold replU
          rw [e12]
          by_cases q : s.1 16 = hd t
          · rw [if_pos (by rw [q]; exact h1.2.2.2.2.2.2.1)]
            show s.1 16 = s.1 15
            rw [q]; exact h1.2.2.2.2.2.1
          · rw [if_neg (hub q).2.2]
            show w.1 15 = _
            rw [wn 15 (by decide) (by decide), o13, if_neg q]
        have r1213 : ∀ x, x < 3000 → (replU w 3000 (s.1 16)).2 12 x = s.2 12 x ∧ (replU w 3000 (s.1 16)).2 13 x = s.2 13 x := fun x hx => by
          have b1 : (ofX s so v).2 12 x = s.2 12 x := (o9 x hx).1
          have b2 : (ofX s so v).2 13 x = s.2 13 x := (o9 x hx).2.1
          unfold replU
          rw [e12, e13]
          by_cases q : s.2 12 (s.1 16) = -9
          · rw [if_pos q]
            by_cases q2 : x = s.1 16
            · subst q2
              have q3 : s.1 16 = hd t := Classical.byContradiction fun q4 => (hub q4).2.2 q
              have q5 : s.2 13 (s.1 16) = -9 := by rw [q3]; exact h1.2.2.2.2.2.2.2
              simp [ua_2, us_2, q, q5]
            · simp only [ua_2, us_2]
              rw [if_neg (by omega), if_neg (by omega), if_neg (by omega), if_neg (by omega), w12, w13]
              exact ⟨b1, b2⟩
          · rw [if_neg q]
            by_cases q2 : x = s.1 16
            · subst q2
              simp [partU, ua_2]
            · simp only [partU, ua_2]
              rw [if_neg (by omega), if_neg (by omega), if_neg (by omega), if_neg (by omega), if_neg (by omega), if_neg (by omega), w12, w13]
              exact ⟨b1, b2⟩
        have r14 : ∀ j, j < 9000 → (replU w 3000 (s.1 16)).2 14 j = s.2 14 j := fun j hj => by
          have b : j ≠ 3 * s.2 12 (s.1 16) + s.2 13 (s.1 16) → (ofX s so v).2 14 j = s.2 14 j := fun hne => by
            have := (o9 (j / 3) (by omega)).2.2 (j % 3) (by omega) (by omega)
            rw [show 3 * (j / 3) + j % 3 = j by omega] at this
            exact this hne
          have b2 : s.2 12 (s.1 16) = -9 → (ofX s so v).2 14 j = s.2 14 j := fun q => (o14 q j).resolve_right (by omega)
          unfold replU
          rw [e12, e13]
          by_cases q : s.2 12 (s.1 16) = -9
          · rw [if_pos q]
            simp only [ua_2, us_2]
            rw [if_neg (by omega), if_neg (by omega), w14]
            exact b2 q
          · have q3 : s.1 16 ≠ hd t := fun q4 => q (by rw [q4]; exact h1.2.2.2.2.2.2.1)
            rw [if_neg q]
            simp only [partU, ua_2]
            rw [if_neg (by omega), if_neg (by omega)]
            by_cases q2 : j = 3 * s.2 12 (s.1 16) + s.2 13 (s.1 16)
            · rw [if_pos ⟨trivial, q2⟩, q2]
              exact (hub q3).2.1.symm
            · rw [if_neg (by omega), w14]
              exact b q2
        refine hF _ ⟨fun k a1 _ => ?_, fun f a1 _ i a3 => ?_⟩ ?_
        · by_cases e : k = 15
          · subst e; exact r15
          · rw [Re.1 k (by simp; omega)]
            by_cases e2 : k = 8
            · subst e2
              rw [hw.1.1 8 (by decide), y8]
            · rw [wn k (by intro q; subst q; exact a1 (by decide)) e2, o12.1 k (by simp; omega)]
        · by_cases e : f = 12 ∨ f = 13
          · have hi : i < 3000 := by unfold scI at a3; omega
            rcases e with rfl | rfl
            · exact (r1213 i hi).1
            · exact (r1213 i hi).2
          · by_cases e2 : f = 14
            · subst e2
              exact r14 i (by unfold scI at a3; omega)
            · rw [Re.2 f (by simp; omega)]
              by_cases e3 : f = 4 ∨ f = 5 ∨ f = 6 ∨ f = 7
              · have hi : i < 40 := by unfold scI at a3; omega
                obtain ⟨m1, m2, m3, m4⟩ := hw.2.1 i hi
                rcases e3 with rfl | rfl | rfl | rfl
                · rw [m1, y2, o12.2 4 (by decide)]
                · rw [m2, y2, o12.2 5 (by decide)]
                · rw [m3, y2, o12.2 6 (by decide)]
                · rw [m4, y2, o12.2 7 (by decide)]
              · have e4 : f ≠ 19 ∧ f ≠ 20 ∧ f ≠ 21 := by simp [scR] at a1; omega
                rw [wr f (by omega)]
                by_cases e5 : f = 9 ∨ f = 10 ∨ f = 11
                · have hi : i < 3000 := by unfold scI at a3; omega
                  obtain ⟨m1, m2, m3⟩ := o5 i hi
                  rcases e5 with rfl | rfl | rfl <;> assumption
                · rw [o12.2 f (by simp; omega)]
        · refine ⟨fun k hk => ?_, fun f hf => ?_⟩
          · simp at hk
            rw [Re.1 k (by simp; omega)]
            by_cases e2 : k = 8
            · subst e2
              rw [hw.1.1 8 (by decide), y8]
            · rw [wn k hk.1 e2, o12.1 k (by simp; omega)]
          · simp at hf
            rw [Re.2 f (by simp; omega), wr f (by omega), o12.2 f (by simp; omega)]
      refine ⟨fun q => rep 0 ?_, fun q => rep 1 ?_⟩
      · have : ofB s t so v = false := by unfold ofB; rw [← e21]; exact decide_eq_false q
        rw [this]; rfl
      · have : ofB s t so v = true := by unfold ofB; rw [← e21]; exact decide_eq_true q
        rw [this]; rfl
  -- the trial's parts
  have lp : ∀ (m : Nat) (i : Int) (x y : SM), 0 ≤ i → i + m = pO so → E8 x y → x.1 8 = 3001 + i → y.1 8 = s.1 8 → hlsU 3000 m i x = ofX s so v → wm iv L h0 (d + 1 + 1) 116 26 [lr 307, li so, ln, li (s.1 16), li i] [] y (qi F) := by
    intro m
    induction m with
    | zero =>
      intro i x y i0 hi hE hx8 hy8 hU
      obtain rfl : i = pO so := by omega
      exact fin y (by rw [← hU]; exact hE) hy8
    | succ m ih =>
      intro i x y i0 hi hE hx8 hy8 hU
      refine B116_26 ⟨by omega, fun q => by omega, fun _ => ⟨by omega, set_ok (by omega) (setPart_ok (by decide) (by omega) (by omega) ⟨by omega, ih (i + 1) (hlU 3000 i x) _ (by omega) (by omega) ⟨?_, fun k hk => ?_⟩ (by rw [hlU_8]; omega) hy8 hU⟩)⟩⟩
      · show (partU (setU y (3001 + i) 0 (-9) (-9)) 3000 i (3001 + i)).2 = (partU (setU (us x 8 (x.1 8 + 1)) (x.1 8) 0 (-9) (-9)) 3000 i (x.1 8)).2
        rw [hx8]
        have := hE.1
        simp only [partU, setU, ua, us, this]
      · have := hE.2 k hk
        rw [hlU_e.1 k (by simp; exact hk)]
        exact this
  refine B116 (set_ok (by decide) (replace_ok (by omega) (by rw [show (setU s 3000 so v 0).2 12 (s.1 16) = s.2 12 (s.1 16) from by simp [setU, ua_2], show (setU s 3000 so v 0).2 13 (s.1 16) = s.2 13 (s.1 16) from by simp [setU, ua_2]]; exact hup) (by decide) ?_))
  refine lp (pO so).toNat 0 (replU (bornU (us s 8 3000) so v 0) (s.1 16) 3000) _ (by omega) (by omega) ⟨?_, fun k hk => ?_⟩ ?_ ?_ rfl
  · have e1 : (bornU (us s 8 3000) so v 0).2 = (setU s 3000 so v 0).2 := rfl
    unfold replU
    rw [e1]
    split
    · rfl
    · rfl
  · have e1 : (bornU (us s 8 3000) so v 0).2 = (setU s 3000 so v 0).2 := rfl
    unfold replU
    rw [e1]
    have e2 : (bornU (us s 8 3000) so v 0).1 k = s.1 k := by
      show (us (us s 8 3000) 8 ((us s 8 3000).1 8 + 1)).1 k = s.1 k
      rw [us_1, if_neg hk, us_1, if_neg hk]
    split
    · show (if k = 15 then (3000 : Int) else s.1 k) = if k = 15 then 3000 else (bornU (us s 8 3000) so v 0).1 k
      rw [e2]
    · exact e2.symm
  · rw [replU_e.1 8 (by decide)]
    show (3000 : Int) + 1 = 3001 + 0
    decide
  · rw [replU_e.1 8 (by decide)]
    rfl
end
end
section
/-! offers(), offer(). -/
noncomputable def ofN (s : SM) (t : Term) : Nat → Int → List (Int × Int)
  | 0, _ => []
  | m + 1, x => (if bds s (s.1 16) x ≠ -9 ∧ ofB s t 3 x = true then [(3, x)] else []) ++ ofN s t m (x + 1)
noncomputable def ofO (s : SM) (t : Term) (so : Int) : List (Int × Int) := if ofB s t so 0 = true then [(so, -9)] else []
noncomputable def ofS (s : SM) (t : Term) : Nat → Int → List (Int × Int)
  | 0, _ => []
  | m + 1, so => ofO s t so ++ ofS s t m (so + 1)
/-- all offers -/
noncomputable def ofL (s : SM) (t : Term) : List (Int × Int) := ofN s t 26 0 ++ (ofO s t 1 ++ (ofO s t 2 ++ ofS s t 12 4))
theorem ofN_len (s : SM) (t : Term) : ∀ (m : Nat) (x : Int), (ofN s t m x).length ≤ m := by
  intro m
  induction m with
  | zero => intro x; exact Nat.le_refl 0
  | succ m ih =>
    intro x
    have := ih (x + 1)
    unfold ofN
    split <;> simp <;> omega
theorem ofO_len (s : SM) (t : Term) (so : Int) : (ofO s t so).length ≤ 1 := by
  unfold ofO
  split <;> simp
theorem ofS_len (s : SM) (t : Term) : ∀ (m : Nat) (x : Int), (ofS s t m x).length ≤ m := by
  intro m
  induction m with
  | zero => intro x; exact Nat.le_refl 0
  | succ m ih =>
    intro x
    have := ih (x + 1)
    have := ofO_len s t x
    show (ofO s t x ++ ofS s t m (x + 1)).length ≤ m + 1
    rw [List.length_append]
    omega
/-- the offers found so far -/
def OL (w : SM) (O : List (Int × Int)) : Prop := w.1 45 = O.length ∧ ∀ (j : Nat) (a : Int × Int), O[j]? = some a → w.2 43 j = a.1 ∧ w.2 44 j = a.2
theorem OL_add {w : SM} {O : List (Int × Int)} {a b : Int} (h : OL w O) : OL (us (ua (ua w 43 (w.1 45) a) 44 (w.1 45) b) 45 (w.1 45 + 1)) (O ++ [(a, b)]) := by
  obtain ⟨h1, h2⟩ := h
  refine ⟨?_, fun j c hj => ?_⟩
  · show w.1 45 + 1 = _
    rw [h1]; simp
  · simp only [us_2, ua_2]
    by_cases hjl : j < O.length
    · rw [List.getElem?_append_left hjl] at hj
      rw [if_neg (by omega), if_neg (by omega), if_neg (by omega), if_neg (by omega)]
      exact h2 j c hj
    · rw [List.getElem?_append_right (by omega)] at hj
      have hj0 : j = O.length := by
        have := (List.getElem?_eq_some_iff.mp hj).1
        simp at this
        omega
      subst hj0
      simp at hj
      subst hj
      rw [h1]
      simp
section
variable {iv : List (Int × Int)} {L : Nat} {h0 : MH} {s : SM} {t : Term} {d : Nat}
/-- one offer, wherever the others stand -/
theorem offer_ok {so v nm : Int} {F : SM → Prop} {O : List (Int × Int)} {x : SM} (h : AFT s t) (hK : KIs s) (ho : s.2 9 (s.1 16) = 0) (hso : 0 ≤ so ∧ so < 16) (hD : 301 ≤ d) (hx : SX [] [] s x) (hO : OL x O) (hl : O.length < 64) (hF : ∀ w, SX [] [] s w → OL w (O ++ if ofB s t so v = true then [(so, if nm = 0 then -9 else v)] else []) → F w) : cm iv L h0 d 117 [vr 307, vi so, vi v, vi nm] x (qv F) := by
  obtain ⟨d, rfl⟩ : ∃ k, d = k + 1 := ⟨d - 1, by omega⟩
  have e16 : x.1 16 = s.1 16 := hx.1 16 (by decide) (by decide)
  have hcl := h.1.lt h.2.2
  have hox : x.2 9 (x.1 16) = 0 := by rw [e16, hx.2 9 (by decide) (by decide) _ (by unfold scI; omega)]; exact ho
  refine B117 (isOffered_ok (h.x hx (by decide) (by decide)) (KI_x hK hx (by decide) (by decide)) hox hso (by omega) (fun w w1 w2 => ?_))
  rw [ofB_x h hK ho hx hso]
  have ws : SX [] [] s w := hx.tr w1
  have wO : OL w O := ⟨(w2.1 45 (by decide)).trans hO.1, fun j a hj => by rw [w2.2 43 (by decide), w2.2 44 (by decide)]; exact hO.2 j a hj⟩
  have w45 := wO.1
  cases hb : ofB s t so v with
  | false =>
    refine ⟨fun _ => hF w ws ?_, fun q => absurd rfl q⟩
    rw [hb, if_neg (by decide), List.append_nil]
    exact wO
  | true =>
    rw [hb, if_pos rfl] at hF
    have sx : ∀ b, SX [] [] s (us (ua (ua w 43 (w.1 45) so) 44 (w.1 45) b) 45 (w.1 45 + 1)) := fun b => ws.tr (SX.eq (eqx_us (eqx_ua (eqx_ua eqx.rf (ys := [45]) (fs := [43, 44]) (by decide)) (by decide)) (by decide)) (by decide) (by decide))
    refine ⟨fun q => absurd q (by decide), fun _ => ⟨by omega, fun e => ⟨by omega, hF _ (sx _) ?_⟩, fun e => ⟨by omega, hF _ (sx _) ?_⟩⟩⟩
    · rw [if_pos e]; exact OL_add wO
    · rw [if_neg e]; exact OL_add wO
theorem findOffers_ok {F : SM → Prop} (h : AFT s t) (hK : KIs s) (ho : s.2 9 (s.1 16) = 0) (hD : 310 ≤ d) (hF : ∀ w, SX [] [] s w → OL w (ofL s t) → F w) : cm iv L h0 d 118 [vr 307] s (qv F) := by
  obtain ⟨d, rfl⟩ : ∃ k, d = k + 1 := ⟨d - 1, by omega⟩
  have hcl := h.1.lt h.2.2
  have hDP := DP_up 61 70 _ (by decide) (DP_tree h.1 _ h.2.2)
  have bnds : ∀ x, SX [] [] s x → ∀ l, bnd (x.2 9) (x.2 10) (x.2 12) (x.2 13) 70 (x.1 16) l = bds s (s.1 16) l := fun x hx l => by
    have hxT := h.x hx (by decide) (by decide)
    rw [hx.1 16 (by decide) (by decide)]
    exact bnd_cg h.1.w hxT.1.w (fun z hz => hx.2 9 (by decide) (by decide) z (by have := h.1.lt hz; unfold scI; omega)) (fun z hz _ => hx.2 10 (by decide) (by decide) z (by have := h.1.lt hz; unfold scI; omega)) 70 _ l h.2.2
  have DPx : ∀ x, SX [] [] s x → DP (x.2 12) 70 (x.1 16) := fun x hx => by
    have hxT := h.x hx (by decide) (by decide)
    exact DP_up 61 70 _ (by decide) (DP_tree hxT.1 _ hxT.2.2)
  -- the last loop
  have l3 : ∀ (m : Nat) (so : Int) (x : SM) (O : List (Int × Int)), 4 ≤ so → so + m = 16 → SX [] [] s x → OL x O → O.length + m ≤ 60 → O ++ ofS s t m so = ofL s t → wm iv L h0 (d + 1) 118 56 [lr 307, li so] [] x (qv F) := by
    intro m
    induction m with
    | zero =>
      intro so x O s4 hm hx hO hl he
      rw [show ofS s t 0 so = [] from rfl, List.append_nil] at he
      exact B118_56 ⟨fun _ => hF x hx (by rw [← he]; exact hO), fun q => by omega⟩
    | succ m ih =>
      intro so x O s4 hm hx hO hl he
      refine B118_56 ⟨fun q => by omega, fun _ => offer_ok h hK ho (by omega) (by omega) hx hO (by omega) (fun w w1 w2 => ⟨by omega, ih (so + 1) w _ (by omega) (by omega) w1 w2 ?_ ?_⟩)⟩
      · have : (if ofB s t so 0 = true then [(so, if (0 : Int) = 0 then -9 else 0)] else []).length ≤ 1 := by split <;> simp
        rw [List.length_append]
        omega
      · rw [← he, List.append_assoc]
        rfl
  have l1 : ∀ (m : Nat) (l : Int) (x : SM) (O : List (Int × Int)), 0 ≤ l → l + m = 26 → SX [] [] s x → OL x O → O.length + m ≤ 26 → O ++ ofN s t m l = ofN s t 26 0 → wm iv L h0 (d + 1) 118 7 [lr 307, li l] [] x (qv F) := by
    intro m
    induction m with
    | zero =>
      intro l x O s4 hm hx hO hl he
      rw [show ofN s t 0 l = [] from rfl, List.append_nil] at he
      refine B118_7 ⟨fun _ => offer_ok h hK ho (by decide) (by omega) hx hO (by omega) (fun w w1 w2 => offer_ok h hK ho (by decide) (by omega) w1 w2 ?_ (fun v v1 v2 => l3 12 4 v _ (by decide) (by decide) v1 v2 ?_ ?_)), fun q => by omega⟩
      · have : (if ofB s t 1 0 = true then [((1 : Int), if (0 : Int) = 0 then -9 else 0)] else []).length ≤ 1 := by split <;> simp
        rw [List.length_append]
        omega
      · have a1 : (if ofB s t 1 0 = true then [((1 : Int), if (0 : Int) = 0 then -9 else 0)] else []).length ≤ 1 := by split <;> simp
        have a2 : (if ofB s t 2 0 = true then [((2 : Int), if (0 : Int) = 0 then -9 else 0)] else []).length ≤ 1 := by split <;> simp
        rw [List.length_append, List.length_append]
        omega
      · rw [he, List.append_assoc, List.append_assoc]
        rfl
    | succ m ih =>
      intro l x O s4 hm hx hO hl he
      have e16 : x.1 16 = s.1 16 := hx.1 16 (by decide) (by decide)
      refine B118_7 ⟨fun q => by omega, fun _ => binderOf_ok (n := 70) (by omega) (DPx x hx) ?_⟩
      rw [bnds x hx]
      refine ⟨fun q => ⟨by omega, ih (l + 1) x O (by omega) (by omega) hx hO (by omega) ?_⟩, fun q => offer_ok h hK ho (by decide) (by omega) hx hO (by omega) (fun w w1 w2 => ⟨by omega, ih (l + 1) w _ (by omega) (by omega) w1 w2 ?_ ?_⟩)⟩
      · rw [← he]
        show O ++ ofN s t m (l + 1) = O ++ ((if bds s (s.1 16) l ≠ -9 ∧ ofB s t 3 l = true then [((3 : Int), l)] else []) ++ ofN s t m (l + 1))
        rw [if_neg (fun c => c.1 q), List.nil_append]
      · have : (if ofB s t 3 l = true then [((3 : Int), if (1 : Int) = 0 then -9 else l)] else []).length ≤ 1 := by split <;> simp
        rw [List.length_append]
        omega
      · rw [← he, List.append_assoc]
        show O ++ ((if ofB s t 3 l = true then [((3 : Int), if (1 : Int) = 0 then -9 else l)] else []) ++ ofN s t m (l + 1)) = O ++ ((if bds s (s.1 16) l ≠ -9 ∧ ofB s t 3 l = true then [((3 : Int), l)] else []) ++ ofN s t m (l + 1))
        cases hb : ofB s t 3 l with
        | false => rw [if_neg (by decide), if_neg (fun c => by cases c.2)]
        | true => rw [if_neg (show ¬ (1 : Int) = 0 by decide), if_pos (show bds s (s.1 16) l ≠ -9 ∧ true = true from ⟨q, rfl⟩), if_pos rfl]
  refine B118 (l1 26 0 (us s 45 0) [] (by decide) (by decide) (SX.eq (eqx_us eqx.rf (ys := [45]) (fs := []) (by decide)) (by decide) (by decide)) ⟨rfl, fun j a hj => by simp at hj⟩ (by decide) rfl)
noncomputable def offA (s : SM) (t : Term) : Int := if s.2 9 (s.1 16) = 0 then (ofL s t).length else -4
theorem offers_ok {F : Int → SM → Prop} (h : AFT s t) (hK : KIs s) (hD : 320 ≤ d) (hF : ∀ w, SX [] [] s w → F (offA s t) w) : cm iv L h0 d 119 [vr 307] s (qi F) := by
  obtain ⟨d, rfl⟩ : ∃ k, d = k + 1 := ⟨d - 1, by omega⟩
  have hcl := h.1.lt h.2.2
  unfold offA at hF
  refine B119 ⟨by omega, fun ho => findOffers_ok h hK ho (by omega) (fun w w1 w2 => ?_), fun ho => ?_⟩
  · have := hF w w1
    rw [if_pos ho, ← w2.1] at this
    exact this
  · have := hF s SX.rf
    rw [if_neg ho] at this
    exact this
noncomputable def of2A (s : SM) (t : Term) (i k : Int) : Int := if 0 ≤ k ∧ k ≤ 1 then (if s.2 9 (s.1 16) = 0 then (if 0 ≤ i then (match (ofL s t)[i.toNat]? with
  | none => -9
  | some a => if k = 0 then a.1 else a.2) else -9) else -4) else -1
theorem offer2_ok {i k : Int} {F : Int → SM → Prop} (h : AFT s t) (hK : KIs s) (hD : 320 ≤ d) (hF : ∀ w, SX [] [] s w → F (of2A s t i k) w) : cm iv L h0 d 120 [vr 307, vi i, vi k] s (qi F) := by
  obtain ⟨d, rfl⟩ : ∃ k, d = k + 1 := ⟨d - 1, by omega⟩
  have hcl := h.1.lt h.2.2
  have hlen : (ofL s t).length ≤ 40 := by
    unfold ofL
    have a1 := ofN_len s t 26 0
    have a2 := ofO_len s t 1
    have a3 := ofO_len s t 2
    have a4 := ofS_len s t 12 4
    simp only [List.length_append]
    omega
  unfold of2A at hF
  refine B120 ⟨fun hk => ⟨by omega, fun ho => findOffers_ok h hK ho (by omega) (fun w w1 w2 => ?_), fun ho => ?_⟩, fun hk => ?_⟩
  · have h2 := hF w w1
    rw [if_pos hk, if_pos ho] at h2
    have h45 := w2.1
    refine ⟨by omega, fun hi => ?_, fun hi => ?_⟩
    · have hlt : i.toNat < (ofL s t).length := by omega
      have g := w2.2 i.toNat _ (List.getElem?_eq_getElem hlt)
      rw [show ((i.toNat : Nat) : Int) = i by omega] at g
      rw [if_pos hi.1, List.getElem?_eq_getElem hlt] at h2
      refine ⟨fun e => ⟨by omega, ?_⟩, fun e => ⟨by omega, ?_⟩⟩
      · rw [g.2]
        have h3 : F (if k = 0 then _ else _) w := h2
        rw [if_neg e] at h3
        exact h3
      · rw [g.1]
        have h3 : F (if k = 0 then _ else _) w := h2
        rw [if_pos e] at h3
        exact h3
    · by_cases h0 : 0 ≤ i
      · rw [if_pos h0, List.getElem?_eq_none (by omega)] at h2
        exact h2
      · rw [if_neg h0] at h2
        exact h2
  · have := hF s SX.rf
    rw [if_pos hk, if_neg ho] at this
    exact this
  · have := hF s SX.rf
    rw [if_neg (by omega)] at this
    exact this
end
end
section
/-! Values as trees; working as a function. An env: .mul, what the letters so far are, what this one is (.null: nothing). -/
/-- an env of n letters -/
def isE : Nat → Term → Prop
  | 0, .null => True
  | n + 1, .mul r _ => isE n r
  | _, _ => False
def mlen : Term → Nat
  | .mul r _ => mlen r + 1
  | _ => 0
def lkE : Term → Int → Term
  | .mul r y, x => if (mlen r : Int) = x then y else lkE r x
  | _, _ => .null
def upE : Term → Int → Term → Term
  | .mul r y, x, v => if (mlen r : Int) = x then .mul r v else .mul (upE r x v) y
  | t, _, _ => t
def nulE : Nat → Term
  | 0 => .null
  | n + 1 => .mul (nulE n) .null
/-- a value: a whole, a truth, a DEF, a pair, what is LEFT: of a hole, a name, in a frame, of an act -/
def isV : Term → Bool
  | .int _ => true
  | .arg _ => true
  | .sub (.index _) _ => true
  | .add _ _ => true
  | .div (.index _) _ => true
  | .index _ => true
  | .length _ => true
  | .rem (.index _) (.elem _ (.elem _ _)) => true
  | _ => false
def isW : Term → Bool
  | .div _ _ => true
  | .index _ => true
  | .length _ => true
  | .rem _ _ => true
  | _ => false
/-- something is LEFT in it -/
def hsL : Term → Bool
  | .add a b => hsL a || hsL b
  | .div _ _ => true
  | .index _ => true
  | .length _ => true
  | .rem _ _ => true
  | _ => false
/-- steps, why it stopped (0: it did not), where, what came -/
abbrev RS : Type := Int × Int × Int × Term
abbrev EW : Type := Int → Term → Int → RS
abbrev EO : Type := Term → Int → RS
def rok (st : Int) (v : Term) : RS := (st, 0, -9, v)
def rst (st how b : Int) : RS := (st, how, b, .null)
def bnR (r : RS) (f : Int → Term → RS) : RS := if r.2.1 = 0 then f r.1 r.2.2.2 else r
/-- two wholes -/
def wh2 (k : Int) (m n : Int) : Int := w32 (if k = 4 then m + n else if k = 5 then m * n else m.tdiv n)
def rckE (k b : Int) (x y : Term) (st : Int) : RS := if isW x || isW y then rok st (.rem (.index b.toNat) (.elem x (.elem y .null))) else match x, y with
  | .int m, .int n => if k = 7 then rok st (.arg (if m.toInt < n.toInt then 1 else 0)) else if k = 6 ∧ n.toInt = 0 then rst st 2 b else rok st (.int (Int32.ofInt (wh2 k m.toInt n.toInt)))
  | _, _ => rst st 3 b
def lftE (b : Int) (x y E : Term) (st : Int) : RS := if isW x then rok st (.rem (.index b.toNat) (.elem x (.elem y E))) else rst st 3 b
def useE (nu pa : Int → Int) (w : EW) (b : Int) (x y : Term) (st : Int) : RS := match x with
  | .sub (.index d) E => w (pa (3 * d)) (upE E (nu d) y) st
  | _ => lftE b x y .null st
def pckE (pa : Int → Int) (w : EW) (b : Int) (x E : Term) (st : Int) : RS := match x with
  | .arg n => w (pa (3 * b + if n = 1 then 1 else 2)) E st
  | _ => lftE b x .null E st
def hlfE (k b : Int) (x : Term) (st : Int) : RS := match x with
  | .add p q => rok st (if k = 13 then p else q)
  | _ => lftE b x .null .null st
def actE (so nu pa : Int → Int) (w : EW) (b : Int) (x y E : Term) (st : Int) : RS :=
  if so b = 4 ∨ so b = 5 ∨ so b = 6 ∨ so b = 7 then rckE (so b) b x y st
  else if so b = 9 then useE nu pa w b x y st
  else if so b = 11 then pckE pa w b x E st
  else if so b = 12 then rok st (.add x y)
  else hlfE (so b) b x st
def wplE (so nu pa rs : Int → Int) (w : EW) (b : Int) (E : Term) (st : Int) : RS :=
  if so b = 0 then rok st (.div (.index b.toNat) E)
  else if so b = 1 then rok st (.int (Int32.ofInt (nu b)))
  else if so b = 2 then rok st (.arg (nu b).toNat)
  else if so b = 3 then rok st (if rs b = 1 then .index (nu b).toNat else lkE E (nu b))
  else if so b = 8 then rok st (.sub (.index b.toNat) E)
  else if so b = 15 then w (pa (3 * b)) E st
  else if so b = 10 then bnR (w (pa (3 * b)) E st) (fun st x => w (pa (3 * b + 1)) (upE E (nu b) x) st)
  else bnR (w (pa (3 * b)) E st) (fun st x => if pO (so b) = 2 then bnR (w (pa (3 * b + 1)) E st) (fun st y => actE so nu pa w b x y E st) else actE so nu pa w b x .null E st)
def frmE (rs : Int → Int) (b : Int) (r : RS) : RS := if 1 < rs b then bnR r (fun st x => rok st (.length x)) else r
/-- where there may be nothing -/
def optE (f : Term → RS) (st : Int) : Term → RS
  | .null => rok st .null
  | v => f v
theorem optE_n {f : Term → RS} {st : Int} : optE f st .null = rok st .null := rfl
theorem optE_v {f : Term → RS} {st : Int} {v : Term} (h : v ≠ .null) : optE f st v = f v := by
  cases v <;> first | rfl | exact absurd rfl h
/-- what is seen is gone on with, by letters -/
def envE (o : EO) : Term → Int → RS
  | .mul r x, st => bnR (envE o r st) (fun st R => bnR (optE (fun x => o x st) st x) (fun st y => rok st (.mul R y)))
  | _, st => rok st .null
/-- what fills a hole now -/
def fllN (fb : Int → Int) : Nat → Int → Int
  | 0, b => b
  | n + 1, b => if 0 < fb b then fllN fb n (fb b - 1) else b
def fllF (fb : Int → Int) (b : Int) : Int := fllN fb 3004 b
def oacE (so nu pa : Int → Int) (w : EW) (o : EO) (b : Int) (A B E : Term) (st : Int) : RS :=
  bnR (o A st) (fun st x => bnR (optE (fun B => o B st) st B) (fun st y => bnR (optE (fun E => envE o E st) st E) (fun st F => actE so nu pa w b x y F st)))
def oplE (so nu pa fb : Int → Int) (w : EW) (o : EO) : Term → Int → RS
  | .sub d E, st => bnR (envE o E st) (fun st F => rok st (.sub d F))
  | .add A B, st => bnR (o A st) (fun st x => bnR (o B st) (fun st y => rok st (.add x y)))
  | .div (.index b) E, st => bnR (envE o E st) (fun st F => if fllF fb b = b then rok st (.div (.index b) F) else w (fllF fb b) F st)
  | .length A, st => bnR (o A st) (fun st x => rok st (.length x))
  | .rem (.index b) (.elem A (.elem B E)), st => oacE so nu pa w o b A B E st
  | v, st => rok st v
/-- working a node, going on with a value, as many levels may still be begun -/
def evw (so nu pa rs fb : Int → Int) (most : Int) : Nat → EW × EO
  | 0 => (fun b _ st => rst st 4 b, fun _ st => rst st 4 (-9))
  | n + 1 => (fun b E st => if st = most then rst st 4 b else frmE rs b (wplE so nu pa rs (evw so nu pa rs fb most n).1 b E (st + 1)), fun v st => if st = most then rst st 4 (-9) else oplE so nu pa fb (evw so nu pa rs fb most n).1 (evw so nu pa rs fb most n).2 v (st + 1))
theorem isE_len : ∀ (n : Nat) (E : Term), isE n E → mlen E = n := by
  intro n
  induction n with
  | zero => intro E h; cases E <;> first | rfl | exact h.elim
  | succ n ih =>
    intro E h
    cases E with
    | mul r y => show mlen r + 1 = n + 1; rw [ih r h]
    | _ => exact h.elim
theorem upE_is : ∀ (n : Nat) (E : Term) (x : Int) (v : Term), isE n E → isE n (upE E x v) := by
  intro n
  induction n with
  | zero => intro E x v h; cases E <;> first | exact h | exact h.elim
  | succ n ih =>
    intro E x v h
    cases E with
    | mul r y =>
      unfold upE
      split
      · exact h
      · exact ih r x v h
    | _ => exact h.elim
theorem lkE_up : ∀ (n : Nat) (E : Term) (x : Int) (v : Term) (z : Int), isE n E → 0 ≤ x → x < n → lkE (upE E x v) z = if z = x then v else lkE E z := by
  intro n
  induction n with
  | zero => intro E x v z h h0 h1; omega
  | succ n ih =>
    intro E x v z h h0 h1
    cases E with
    | mul r y =>
      have hr : isE n r := h
      have hl := isE_len n r hr
      unfold upE
      by_cases e : (mlen r : Int) = x
      · rw [if_pos e]
        show (if (mlen r : Int) = z then v else lkE r z) = if z = x then v else if (mlen r : Int) = z then y else lkE r z
        by_cases e2 : z = x
        · rw [if_pos (by omega), if_pos e2]
        · rw [if_neg (by omega), if_neg e2, if_neg (by omega)]
      · rw [if_neg e]
        show (if (mlen (upE r x v) : Int) = z then y else lkE (upE r x v) z) = if z = x then v else if (mlen r : Int) = z then y else lkE r z
        rw [isE_len n _ (upE_is n r x v hr), ih r x v z hr h0 (by omega)]
        by_cases e2 : z = x
        · rw [if_neg (by omega), if_pos e2, if_pos e2]
        · rw [if_neg e2, if_neg e2, hl]
    | _ => exact h.elim
theorem nulE_is : ∀ n : Nat, isE n (nulE n) := by
  intro n
  induction n with
  | zero => trivial
  | succ n ih => exact ih
theorem nulE_lk : ∀ (n : Nat) (x : Int), lkE (nulE n) x = .null := by
  intro n
  induction n with
  | zero => intro x; rfl
  | succ n ih =>
    intro x
    show (if (mlen (nulE n) : Int) = x then Term.null else lkE (nulE n) x) = .null
    split
    · rfl
    · exact ih x
theorem lkE_out : ∀ (n : Nat) (E : Term) (x : Int), isE n E → x < 0 ∨ (n : Int) ≤ x → lkE E x = .null := by
  intro n
  induction n with
  | zero => intro E x h _; cases E <;> first | rfl | exact h.elim
  | succ n ih =>
    intro E x h hx
    cases E with
    | mul r y =>
      have hl := isE_len n r h
      show (if (mlen r : Int) = x then y else lkE r x) = .null
      rw [if_neg (by omega)]
      exact ih r x h (by omega)
    | _ => exact h.elim
end
section
/-! What working comes to is whole: its nodes are in the sheet, its envs have what names ask for. -/
def cov (s : SM) (b : Int) (E : Term) : Prop := ∀ x, 0 ≤ x → x < 26 → bds s b x ≠ -9 → lkE E x ≠ .null
/-- what stands where a hole was: itself, if it is in the sheet -/
def tgt (s : SM) (t : Term) (b : Int) : Int := if b ∈ fl t then b else fllF (s.2 42) b
def VG (s : SM) (t : Term) (g : Int → Int) : Term → Prop
  | .int _ => True
  | .arg n => n ≤ 1
  | .index x => x < 26
  | .sub (.index d) E => ((d : Int) ∈ fl t ∧ s.2 9 d = 8) ∧ cov s d E ∧ isE 26 E ∧ VG s t g E
  | .add A B => (isV A = true ∧ VG s t g A) ∧ isV B = true ∧ VG s t g B
  | .div (.index b) E => ((b : Int) < s.1 8 ∧ g b ∈ fl t ∧ (g b = b → s.2 9 b = 0)) ∧ cov s (g b) E ∧ isE 26 E ∧ VG s t g E
  | .length A => isV A = true ∧ VG s t g A
  | .rem (.index n) (.elem A (.elem B E)) => ((n : Int) ∈ fl t ∧ isV A = true ∧ VG s t g A) ∧ (((s.2 9 n = 4 ∨ s.2 9 n = 5 ∨ s.2 9 n = 6 ∨ s.2 9 n = 7 ∨ s.2 9 n = 9) ∧ isV B = true ∧ VG s t g B ∧ E = .null) ∨ (s.2 9 n = 11 ∧ B = .null ∧ isE 26 E ∧ cov s n E ∧ VG s t g E) ∨ ((s.2 9 n = 13 ∨ s.2 9 n = 14) ∧ B = .null ∧ E = .null))
  | .mul r x => VG s t g r ∧ (x = .null ∨ (isV x = true ∧ VG s t g x))
  | .null => True
  | _ => False
/-- what came of working: its holes are in the sheet; what is to be gone on with: what stands for them is -/
abbrev VN (s : SM) (t : Term) : Term → Prop := VG s t (fun b => b)
abbrev VO (s : SM) (t : Term) : Term → Prop := VG s t (tgt s t)
theorem isV_nn {v : Term} (h : isV v = true) : v ≠ .null := fun e => by rw [e] at h; cases h
/-- names that are in no frame for it are bound -/
def RSN (s : SM) (t : Term) : Prop := ∀ y, y ∈ fl t → s.2 9 y = 3 → s.2 21 y ≠ 1 → bds s y (s.2 10 y) ≠ -9
def RO (s : SM) (t : Term) (most st : Int) (r : RS) : Prop := (st ≤ r.1 ∧ r.1 ≤ most) ∧ (r.2.1 = 0 ∨ (2 ≤ r.2.1 ∧ r.2.1 ≤ 4)) ∧ (r.2.1 = 0 → r.2.2.1 = -9 ∧ isV r.2.2.2 = true ∧ VN s t r.2.2.2)
/-- an env with the same letters -/
def RE (s : SM) (t : Term) (most st : Int) (n : Nat) (E : Term) (r : RS) : Prop := (st ≤ r.1 ∧ r.1 ≤ most) ∧ (r.2.1 = 0 ∨ (2 ≤ r.2.1 ∧ r.2.1 ≤ 4)) ∧ (r.2.1 = 0 → r.2.2.1 = -9 ∧ isE n r.2.2.2 ∧ VN s t r.2.2.2 ∧ ∀ x, lkE r.2.2.2 x = .null → lkE E x = .null)
theorem RO_ok {s : SM} {t : Term} {most st : Int} {v : Term} (h : st ≤ most) (h1 : isV v = true) (h2 : VN s t v) : RO s t most st (rok st v) := ⟨⟨Int.le_refl _, h⟩, Or.inl rfl, fun _ => ⟨rfl, h1, h2⟩⟩
theorem RO_st {s : SM} {t : Term} {most st how b : Int} (h : st ≤ most) (h1 : 2 ≤ how ∧ how ≤ 4) : RO s t most st (rst st how b) := ⟨⟨Int.le_refl _, h⟩, Or.inr h1, fun q => by have q : how = 0 := q; omega⟩
theorem RO_bn {s : SM} {t : Term} {most st : Int} {r : RS} {f : Int → Term → RS} (h : RO s t most st r) (hf : ∀ st' v, st ≤ st' → st' ≤ most → isV v = true → VN s t v → RO s t most st' (f st' v)) : RO s t most st (bnR r f) := by
  unfold bnR
  by_cases e : r.2.1 = 0
  · rw [if_pos e]
    obtain ⟨h1, h2, h3⟩ := h
    obtain ⟨h4, h5, h6⟩ := h3 e
    obtain ⟨g1, g2, g3⟩ := hf r.1 r.2.2.2 h1.1 h1.2 h5 h6
    exact ⟨⟨by omega, g1.2⟩, g2, g3⟩
  · rw [if_neg e]; exact h
theorem RE_bn {s : SM} {t : Term} {most st : Int} {n : Nat} {E : Term} {r : RS} {f : Int → Term → RS} (h : RE s t most st n E r) (hf : ∀ st' v, st ≤ st' → st' ≤ most → isE n v → VN s t v → (∀ x, lkE v x = .null → lkE E x = .null) → RO s t most st' (f st' v)) : RO s t most st (bnR r f) := by
  unfold bnR
  obtain ⟨h1, h2, h3⟩ := h
  by_cases e : r.2.1 = 0
  · rw [if_pos e]
    obtain ⟨h4, h5, h6, h7⟩ := h3 e
    obtain ⟨g1, g2, g3⟩ := hf r.1 r.2.2.2 h1.1 h1.2 h5 h6 h7
    exact ⟨⟨by omega, g1.2⟩, g2, g3⟩
  · rw [if_neg e]
    exact ⟨h1, h2, fun q => absurd q e⟩
theorem VN_lk {s : SM} {t : Term} {g : Int → Int} : ∀ (E : Term) (x : Int), VG s t g E → lkE E x ≠ .null → isV (lkE E x) = true ∧ VG s t g (lkE E x) := by
  intro E
  induction E with
  | mul r y ih _ =>
    intro x h hn
    have h : VG s t g r ∧ (y = .null ∨ (isV y = true ∧ VG s t g y)) := h
    unfold lkE at hn ⊢
    by_cases e : (mlen r : Int) = x
    · rw [if_pos e] at hn ⊢
      exact h.2.resolve_left hn
    · rw [if_neg e] at hn ⊢
      exact ih x h.1 hn
  | _ => intro x h hn; exact absurd rfl hn
theorem VN_up {s : SM} {t : Term} : ∀ (E : Term) (x : Int) (v : Term), VN s t E → isV v = true → VN s t v → VN s t (upE E x v) := by
  intro E
  induction E with
  | mul r y ih _ =>
    intro x v h h1 h2
    have h : VN s t r ∧ (y = .null ∨ (isV y = true ∧ VN s t y)) := h
    unfold upE
    by_cases e : (mlen r : Int) = x
    · rw [if_pos e]; exact ⟨h.1, Or.inr ⟨h1, h2⟩⟩
    · rw [if_neg e]; exact ⟨ih x v h.1 h1 h2, h.2⟩
  | _ => intro x v h _ _; exact h
section
variable {s : SM} {t : Term}
/-- what binds letters in a part -/
theorem bds_part (h : SHT s t) {b i : Int} (hb : b ∈ fl t) (hi : 0 ≤ i ∧ i < pO (s.2 9 b)) (x : Int) : s.2 14 (3 * b + i) ∈ fl t ∧ bds s (s.2 14 (3 * b + i)) x = if (s.2 9 b = 8 ∨ (s.2 9 b = 10 ∧ i = 1)) ∧ s.2 10 b = x then b else bds s b x := by
  obtain ⟨c1, c2, c3⟩ := (AT_mem t h.1 b hb).2.2.1 i hi.1 hi.2 (fun q => by have := h.2.1; unfold full at this; rw [this, ← q]; exact hi.2)
  refine ⟨c1, ?_⟩
  have hbl := h.lt hb
  show bnd (s.2 9) (s.2 10) (s.2 12) (s.2 13) (69 + 1) (s.2 14 (3 * b + i)) x = _
  unfold bnd
  rw [c2, c3, if_neg (by omega)]
  by_cases q : (s.2 9 b = 8 ∨ (s.2 9 b = 10 ∧ i = 1)) ∧ s.2 10 b = x
  · rw [if_pos q, if_pos q]
  · rw [if_neg q, if_neg q]
    exact (bnd_f 69 70 b x (by decide) (DP_up 61 69 _ (by decide) (DP_tree h b hb))).symm
theorem cov_part (h : SHT s t) {b i : Int} {E : Term} (hb : b ∈ fl t) (hi : 0 ≤ i ∧ i < pO (s.2 9 b)) (hn : ¬ (s.2 9 b = 8 ∨ (s.2 9 b = 10 ∧ i = 1))) (hc : cov s b E) : s.2 14 (3 * b + i) ∈ fl t ∧ cov s (s.2 14 (3 * b + i)) E := by
  refine ⟨(bds_part h hb hi 0).1, fun x x0 x1 hx => hc x x0 x1 ?_⟩
  rw [(bds_part h hb hi x).2, if_neg (fun q => hn q.1)] at hx
  exact hx
theorem cov_bind (h : SHT s t) (hN : NB s) {b i : Int} {E v : Term} (hb : b ∈ fl t) (hi : 0 ≤ i ∧ i < pO (s.2 9 b)) (hn : s.2 9 b = 8 ∨ (s.2 9 b = 10 ∧ i = 1)) (hE : isE 26 E) (hv : v ≠ .null) (hc : cov s b E) : s.2 14 (3 * b + i) ∈ fl t ∧ cov s (s.2 14 (3 * b + i)) (upE E (s.2 10 b) v) := by
  have hbl := h.lt hb
  have hnb := (hN b hbl.1 hbl.2.1).2.1 (by omega)
  refine ⟨(bds_part h hb hi 0).1, fun x x0 x1 hx => ?_⟩
  rw [lkE_up 26 E _ v x hE hnb.1 hnb.2]
  rw [(bds_part h hb hi x).2] at hx
  by_cases q : x = s.2 10 b
  · rw [if_pos q]; exact hv
  · rw [if_neg q]
    rw [if_neg (fun c => q c.2.symm)] at hx
    exact hc x x0 x1 hx
theorem act_ok (h : SHT s t) (hN : NB s) {most : Int} {w : EW} (hw : ∀ b E st, b ∈ fl t → isE 26 E → VN s t E → cov s b E → st ≤ most → RO s t most st (w b E st)) {b st : Int} {x y E : Term} (hb : b ∈ fl t) (hst : st ≤ most) (hx : isV x = true ∧ VN s t x) (hso : 4 ≤ s.2 9 b ∧ s.2 9 b < 15 ∧ s.2 9 b ≠ 8 ∧ s.2 9 b ≠ 10) (hy : (s.2 9 b = 4 ∨ s.2 9 b = 5 ∨ s.2 9 b = 6 ∨ s.2 9 b = 7 ∨ s.2 9 b = 9 ∨ s.2 9 b = 12) → isV y = true ∧ VN s t y) (hE : s.2 9 b = 11 → isE 26 E ∧ VN s t E ∧ cov s b E) : RO s t most st (actE (s.2 9) (s.2 10) (s.2 14) w b x y E st) := by
  have hbl := h.lt hb
  have eb : ((b.toNat : Nat) : Int) = b := by omega
  have lft : ∀ (y' E' : Term), isW x = true → (((s.2 9 b = 4 ∨ s.2 9 b = 5 ∨ s.2 9 b = 6 ∨ s.2 9 b = 7 ∨ s.2 9 b = 9) ∧ isV y' = true ∧ VN s t y' ∧ E' = .null) ∨ (s.2 9 b = 11 ∧ y' = .null ∧ isE 26 E' ∧ cov s b E' ∧ VN s t E') ∨ ((s.2 9 b = 13 ∨ s.2 9 b = 14) ∧ y' = .null ∧ E' = .null)) → RO s t most st (rok st (.rem (.index b.toNat) (.elem x (.elem y' E')))) := fun y' E' _ q =>
    RO_ok hst rfl ⟨⟨by rw [eb]; exact hb, hx.1, hx.2⟩, by rw [eb]; exact q⟩
  have lf2 : ∀ (y' E' : Term), (((s.2 9 b = 4 ∨ s.2 9 b = 5 ∨ s.2 9 b = 6 ∨ s.2 9 b = 7 ∨ s.2 9 b = 9) ∧ isV y' = true ∧ VN s t y' ∧ E' = .null) ∨ (s.2 9 b = 11 ∧ y' = .null ∧ isE 26 E' ∧ cov s b E' ∧ VN s t E') ∨ ((s.2 9 b = 13 ∨ s.2 9 b = 14) ∧ y' = .null ∧ E' = .null)) → RO s t most st (lftE b x y' E' st) := fun y' E' q => by
    unfold lftE
    by_cases e : isW x = true
    · rw [if_pos e]; exact lft y' E' e q
    · rw [if_neg e]; exact RO_st hst (by decide)
  unfold actE
  by_cases e1 : s.2 9 b = 4 ∨ s.2 9 b = 5 ∨ s.2 9 b = 6 ∨ s.2 9 b = 7
  · rw [if_pos e1]
    obtain ⟨y1, y2⟩ := hy (by omega)
    unfold rckE
    by_cases e : (isW x || isW y) = true
    · rw [if_pos e]
      exact RO_ok hst rfl ⟨⟨by rw [eb]; exact hb, hx.1, hx.2⟩, by rw [eb]; exact Or.inl ⟨by omega, y1, y2, rfl⟩⟩
    · rw [if_neg e]
      split
      · split
        · refine RO_ok hst rfl ?_
          show (if _ then 1 else 0) ≤ 1
          split <;> omega
        · split
          · exact RO_st hst (by decide)
          · exact RO_ok hst rfl trivial
      · exact RO_st hst (by decide)
  · rw [if_neg e1]
    by_cases e2 : s.2 9 b = 9
    · rw [if_pos e2]
      obtain ⟨y1, y2⟩ := hy (by omega)
      have gen : ∀ d E', x = .sub (.index d) E' → RO s t most st (w (s.2 14 (3 * d)) (upE E' (s.2 10 d) y) st) := fun d E' e => by
        subst e
        obtain ⟨⟨d1, d2⟩, d3, d4, d5⟩ := hx.2
        have := cov_bind h hN (i := 0) d1 (by rw [d2]; decide) (Or.inl d2) d4 (isV_nn y1) d3
        rw [show (3 * (d : Int) + 0) = 3 * d by omega] at this
        exact hw _ _ _ this.1 (upE_is 26 _ _ _ d4) (VN_up _ _ _ d5 y1 y2) this.2 hst
      unfold useE
      split
      · rename_i d E' 
        exact gen d E' rfl
      · exact lf2 y .null (Or.inl ⟨by omega, y1, y2, rfl⟩)
    · rw [if_neg e2]
      by_cases e3 : s.2 9 b = 11
      · rw [if_pos e3]
        obtain ⟨h1, h2, h3⟩ := hE e3
        unfold pckE
        split
        · rename_i n
          have hp : pO (s.2 9 b) = 3 := by rw [e3]; rfl
          have := cov_part h (i := if n = 1 then 1 else 2) hb (by rw [hp]; split <;> omega) (by omega) h3
          exact hw _ _ _ this.1 h1 h2 this.2 hst
        · exact lf2 .null E (Or.inr (Or.inl ⟨e3, rfl, h1, h3, h2⟩))
      · rw [if_neg e3]
        by_cases e4 : s.2 9 b = 12
        · rw [if_pos e4]
          obtain ⟨y1, y2⟩ := hy (by omega)
          exact RO_ok hst rfl ⟨hx, y1, y2⟩
        · rw [if_neg e4]
          unfold hlfE
          split
          · rename_i p q
            obtain ⟨⟨p1, p2⟩, q1, q2⟩ := hx.2
            split
            · exact RO_ok hst p1 p2
            · exact RO_ok hst q1 q2
          · exact lf2 .null .null (Or.inr (Or.inr ⟨by omega, rfl, rfl⟩))
theorem work_ok1 (h : SHT s t) (hN : NB s) (hR : RSN s t) {most : Int} {w : EW} (hw : ∀ b E st, b ∈ fl t → isE 26 E → VN s t E → cov s b E → st ≤ most → RO s t most st (w b E st)) {b st : Int} {E : Term} (hb : b ∈ fl t) (hE : isE 26 E) (hV : VN s t E) (hc : cov s b E) (hst : st ≤ most) : RO s t most st (wplE (s.2 9) (s.2 10) (s.2 14) (s.2 21) w b E st) := by
  have hbl := h.lt hb
  have eb : ((b.toNat : Nat) : Int) = b := by omega
  obtain ⟨n1, n2, n3, n4⟩ := hN b hbl.1 hbl.2.1
  have prt : ∀ i, 0 ≤ i → i < pO (s.2 9 b) → ¬ (s.2 9 b = 8 ∨ (s.2 9 b = 10 ∧ i = 1)) → ∀ st', st' ≤ most → RO s t most st' (w (s.2 14 (3 * b + i)) E st') := fun i i0 i1 hn st' hs => by
    have := cov_part h hb ⟨i0, i1⟩ hn hc
    exact hw _ _ _ this.1 hE hV this.2 hs
  have p0 : 0 < pO (s.2 9 b) → ¬ (s.2 9 b = 8) → ∀ st', st' ≤ most → RO s t most st' (w (s.2 14 (3 * b)) E st') := fun i1 hn st' hs => by
    have := prt 0 (Int.le_refl 0) i1 (by omega) st' hs
    rw [Int.add_zero] at this
    exact this
  unfold wplE
  by_cases e0 : s.2 9 b = 0
  · rw [if_pos e0]
    have hd : ((b.toNat : Nat) : Int) ∈ fl t := by rw [eb]; exact hb
    have hd2 : cov s ((b.toNat : Nat) : Int) E := by rw [eb]; exact hc
    exact RO_ok hst rfl ⟨⟨by rw [eb]; exact hbl.2.1, hd, fun _ => by rw [eb]; exact e0⟩, hd2, hE, hV⟩
  rw [if_neg e0]
  by_cases e1 : s.2 9 b = 1
  · rw [if_pos e1]; exact RO_ok hst rfl trivial
  rw [if_neg e1]
  by_cases e2 : s.2 9 b = 2
  · rw [if_pos e2]
    refine RO_ok hst rfl ?_
    show (s.2 10 b).toNat ≤ 1
    have := n3 e2
    omega
  rw [if_neg e2]
  by_cases e3 : s.2 9 b = 3
  · rw [if_pos e3]
    have hnu := n2 (Or.inl e3)
    by_cases e : s.2 21 b = 1
    · rw [if_pos e]
      refine RO_ok hst rfl ?_
      show (s.2 10 b).toNat < 26
      omega
    · rw [if_neg e]
      have := VN_lk E _ hV (hc _ hnu.1 hnu.2 (hR b hb e3 e))
      exact RO_ok hst this.1 this.2
  rw [if_neg e3]
  by_cases e8 : s.2 9 b = 8
  · rw [if_pos e8]
    exact RO_ok hst rfl ⟨⟨by rw [eb]; exact hb, by rw [eb]; exact e8⟩, by rw [eb]; exact hc, hE, hV⟩
  rw [if_neg e8]
  by_cases e15 : s.2 9 b = 15
  · rw [if_pos e15]; exact p0 (by rw [e15]; decide) e8 st hst
  rw [if_neg e15]
  by_cases e10 : s.2 9 b = 10
  · rw [if_pos e10]
    refine RO_bn (p0 (by rw [e10]; decide) e8 st hst) (fun st' v s1 s2 v1 v2 => ?_)
    have := cov_bind h hN (i := 1) hb (by rw [e10]; decide) (Or.inr ⟨e10, rfl⟩) hE (isV_nn v1) hc
    exact hw _ _ _ this.1 (upE_is 26 _ _ _ hE) (VN_up _ _ _ hV v1 v2) this.2 s2
  rw [if_neg e10]
  have hp1 : 0 < pO (s.2 9 b) := by
    rcases (show s.2 9 b = 4 ∨ s.2 9 b = 5 ∨ s.2 9 b = 6 ∨ s.2 9 b = 7 ∨ s.2 9 b = 9 ∨ s.2 9 b = 11 ∨ s.2 9 b = 12 ∨ s.2 9 b = 13 ∨ s.2 9 b = 14 by omega) with e | e | e | e | e | e | e | e | e <;> rw [e] <;> decide
  refine RO_bn (p0 hp1 e8 st hst) (fun st' x s1 s2 x1 x2 => ?_)
  by_cases e : pO (s.2 9 b) = 2
  · rw [if_pos e]
    refine RO_bn (prt 1 (by decide) (by omega) (by omega) st' s2) (fun st'' y s3 s4 y1 y2 => ?_)
    exact act_ok h hN hw hb s4 ⟨x1, x2⟩ (by omega) (fun _ => ⟨y1, y2⟩) (fun _ => ⟨hE, hV, hc⟩)
  · rw [if_neg e]
    refine act_ok h hN hw hb s2 ⟨x1, x2⟩ (by omega) (fun q => ?_) (fun _ => ⟨hE, hV, hc⟩)
    exfalso
    rcases q with q | q | q | q | q | q <;> rw [q] at e <;> exact e rfl
theorem bnR_0 {r : RS} {f : Int → Term → RS} (e : r.2.1 = 0) : bnR r f = f r.1 r.2.2.2 := if_pos e
theorem bnR_n {r : RS} {f : Int → Term → RS} (e : r.2.1 ≠ 0) : bnR r f = r := if_neg e
theorem env_ok {most : Int} {o : EO} (ho : ∀ v st, isV v = true → VO s t v → st ≤ most → RO s t most st (o v st)) : ∀ (n : Nat) (E : Term) (st : Int), isE n E → VO s t E → st ≤ most → RE s t most st n E (envE o E st) := by
  intro n
  induction n with
  | zero =>
    intro E st h hV hst
    cases E with
    | null => exact ⟨⟨Int.le_refl _, hst⟩, Or.inl rfl, fun _ => ⟨rfl, trivial, trivial, fun x _ => rfl⟩⟩
    | _ => exact h.elim
  | succ n ih =>
    intro E st h hV hst
    cases E with
    | mul r x =>
      have hV : VO s t r ∧ (x = .null ∨ (isV x = true ∧ VO s t x)) := hV
      have hr : isE n r := h
      have hl := isE_len n r hr
      obtain ⟨a1, a2, a3⟩ := ih r st hr hV.1 hst
      show RE s t most st (n + 1) (.mul r x) (bnR (envE o r st) (fun st R => bnR (optE (fun x => o x st) st x) (fun st y => rok st (.mul R y))))
      by_cases e : (envE o r st).2.1 = 0
      · rw [bnR_0 e]
        obtain ⟨b1, b2, b3, b4⟩ := a3 e
        have hl2 := isE_len n _ b2
        by_cases hx : x = .null
        · subst hx
          rw [optE_n]
          refine ⟨a1, Or.inl rfl, fun _ => ⟨rfl, b2, ⟨b3, Or.inl rfl⟩, fun z hz => ?_⟩⟩
          show (if (mlen r : Int) = z then Term.null else lkE r z) = .null
          by_cases q2 : (mlen r : Int) = z
          · rw [if_pos q2]
          · rw [if_neg q2]
            refine b4 z ?_
            have hz : (if (mlen (envE o r st).2.2.2 : Int) = z then Term.null else lkE (envE o r st).2.2.2 z) = .null := hz
            rw [if_neg (by omega)] at hz
            exact hz
        · rw [optE_v hx]
          obtain ⟨q1, q2⟩ := hV.2.resolve_left hx
          obtain ⟨c1, c2, c3⟩ := ho x (envE o r st).1 q1 q2 a1.2
          by_cases e2 : (o x (envE o r st).1).2.1 = 0
          · rw [bnR_0 e2]
            obtain ⟨d1, d2, d3⟩ := c3 e2
            refine ⟨⟨by show st ≤ (o x (envE o r st).1).1; omega, c1.2⟩, Or.inl rfl, fun _ => ⟨rfl, b2, ⟨b3, Or.inr ⟨d2, d3⟩⟩, fun z hz => ?_⟩⟩
            have hz : (if (mlen (envE o r st).2.2.2 : Int) = z then (o x (envE o r st).1).2.2.2 else lkE (envE o r st).2.2.2 z) = .null := hz
            show (if (mlen r : Int) = z then x else lkE r z) = .null
            by_cases q3 : (mlen r : Int) = z
            · rw [if_pos (by omega)] at hz
              exact absurd hz (isV_nn d2)
            · rw [if_neg (by omega)] at hz
              rw [if_neg q3]
              exact b4 z hz
          · rw [bnR_n e2]
            exact ⟨⟨by omega, c1.2⟩, c2, fun q => absurd q e2⟩
      · rw [bnR_n e]
        exact ⟨a1, a2, fun q => absurd q e⟩
    | _ => exact h.elim
theorem RO_frm {most st b : Int} {rs : Int → Int} {r : RS} (h : RO s t most st r) : RO s t most st (frmE rs b r) := by
  unfold frmE
  split
  · exact RO_bn h (fun st' v s1 s2 v1 v2 => RO_ok s2 rfl ⟨v1, v2⟩)
  · exact h
/-- nothing in the sheet is filled -/
def FN (s : SM) (t : Term) : Prop := ∀ y, y ∈ fl t → s.2 9 y = 0 → fllF (s.2 42) y = y
theorem tgt_f {b : Int} (hF : FN s t) (h2 : tgt s t b = b → s.2 9 b = 0) (hq : fllF (s.2 42) b ≠ b) : tgt s t b = fllF (s.2 42) b := by
  unfold tgt
  by_cases e : b ∈ fl t
  · exact absurd (hF b e (h2 (if_pos e))) hq
  · exact if_neg e
theorem evw_okw (h : SHT s t) (hN : NB s) (hR : RSN s t) (most : Int) : ∀ n : Nat, (∀ b E st, b ∈ fl t → isE 26 E → VN s t E → cov s b E → st ≤ most → RO s t most st ((evw (s.2 9) (s.2 10) (s.2 14) (s.2 21) (s.2 42) most n).1 b E st)) := by
  intro n
  induction n with
  | zero => exact fun b E st _ _ _ _ hst => RO_st hst (by decide)
  | succ n hw =>
    intro b E st hb hE hV hc hst
    show RO s t most st (if st = most then rst st 4 b else frmE (s.2 21) b (wplE (s.2 9) (s.2 10) (s.2 14) (s.2 21) (evw (s.2 9) (s.2 10) (s.2 14) (s.2 21) (s.2 42) most n).1 b E (st + 1)))
    by_cases e : st = most
    · rw [if_pos e]; exact RO_st hst (by decide)
    · rw [if_neg e]
      obtain ⟨g1, g2, g3⟩ := RO_frm (rs := s.2 21) (b := b) (work_ok1 h hN hR hw hb hE hV hc (show st + 1 ≤ most by omega))
      exact ⟨⟨by omega, g1.2⟩, g2, g3⟩
theorem evw_ok (h : SHT s t) (hN : NB s) (hR : RSN s t) (hF : FN s t) (most : Int) : ∀ n : Nat, (∀ b E st, b ∈ fl t → isE 26 E → VN s t E → cov s b E → st ≤ most → RO s t most st ((evw (s.2 9) (s.2 10) (s.2 14) (s.2 21) (s.2 42) most n).1 b E st)) ∧ (∀ v st, isV v = true → VO s t v → st ≤ most → RO s t most st ((evw (s.2 9) (s.2 10) (s.2 14) (s.2 21) (s.2 42) most n).2 v st)) := by
  intro n
  induction n with
  | zero => exact ⟨fun b E st _ _ _ _ hst => RO_st hst (by decide), fun v st _ _ hst => RO_st hst (by decide)⟩
  | succ n ih =>
    obtain ⟨hw, ho⟩ := ih
    refine ⟨evw_okw h hN hR most (n + 1), fun v st hv hV hst => ?_⟩
    · show RO s t most st (if st = most then rst st 4 (-9) else oplE (s.2 9) (s.2 10) (s.2 14) (s.2 42) (evw (s.2 9) (s.2 10) (s.2 14) (s.2 21) (s.2 42) most n).1 (evw (s.2 9) (s.2 10) (s.2 14) (s.2 21) (s.2 42) most n).2 v (st + 1))
      by_cases e : st = most
      · rw [if_pos e]; exact RO_st hst (by decide)
      · rw [if_neg e]
        have hs1 : st + 1 ≤ most := by omega
        suffices hg : RO s t most (st + 1) (oplE (s.2 9) (s.2 10) (s.2 14) (s.2 42) (evw (s.2 9) (s.2 10) (s.2 14) (s.2 21) (s.2 42) most n).1 (evw (s.2 9) (s.2 10) (s.2 14) (s.2 21) (s.2 42) most n).2 v (st + 1)) by
          obtain ⟨g1, g2, g3⟩ := hg
          exact ⟨⟨by omega, g1.2⟩, g2, g3⟩
        cases v with
        | sub d E =>
          cases d with
          | index d =>
            obtain ⟨d1, d2, d3, d4⟩ := hV
            exact RE_bn (env_ok ho 26 E _ d3 d4 hs1) (fun st' F s1 s2 f1 f2 f3 => RO_ok s2 rfl ⟨d1, fun x x0 x1 hx q => d2 x x0 x1 hx (f3 x q), f1, f2⟩)
          | _ => cases hv
        | add A B =>
          obtain ⟨⟨a1, a2⟩, b1, b2⟩ := hV
          exact RO_bn (ho A _ a1 a2 hs1) (fun st' x s1 s2 x1 x2 => RO_bn (ho B _ b1 b2 s2) (fun st'' y s3 s4 y1 y2 => RO_ok s4 rfl ⟨⟨x1, x2⟩, y1, y2⟩))
        | div b E =>
          cases b with
          | index b =>
            obtain ⟨⟨d0, d1, d2⟩, d3, d4, d5⟩ := hV
            refine RE_bn (env_ok ho 26 E _ d4 d5 hs1) (fun st' F s1 s2 f1 f2 f3 => ?_)
            have hcF : cov s (tgt s t b) F := fun x x0 x1 hx q => d3 x x0 x1 hx (f3 x q)
            by_cases q : fllF (s.2 42) b = b
            · rw [if_pos q]
              have ht : tgt s t b = b := by
                unfold tgt
                split
                · rfl
                · exact q
              rw [ht] at d1 d2 hcF
              exact RO_ok s2 rfl ⟨⟨d0, d1, d2⟩, hcF, f1, f2⟩
            · rw [if_neg q]
              have ht := tgt_f hF d2 q
              rw [ht] at d1 hcF
              exact hw _ _ _ d1 f1 f2 hcF s2
          | _ => cases hv
        | length A =>
          obtain ⟨a1, a2⟩ := hV
          exact RO_bn (ho A _ a1 a2 hs1) (fun st' x s1 s2 x1 x2 => RO_ok s2 rfl ⟨x1, x2⟩)
        | rem b q =>
          cases b with
          | index b =>
            cases q with
            | elem A q =>
              cases q with
              | elem B E =>
                obtain ⟨⟨b1, a1, a2⟩, hcase⟩ := hV
                refine RO_bn (ho A _ a1 a2 hs1) (fun st1 x s1 s2 x1 x2 => ?_)
                rcases hcase with ⟨so, B1, B2, rfl⟩ | ⟨so, rfl, E1, E2, E3⟩ | ⟨so, rfl, rfl⟩
                · rw [optE_v (isV_nn B1)]
                  refine RO_bn (ho B _ B1 B2 s2) (fun st2 y s3 s4 y1 y2 => ?_)
                  rw [optE_n, bnR_0 rfl]
                  exact act_ok h hN hw b1 s4 ⟨x1, x2⟩ (by omega) (fun _ => ⟨y1, y2⟩) (fun q => by omega)
                · rw [optE_n, bnR_0 rfl, optE_v (fun q => by rw [q] at E1; exact E1.elim)]
                  refine RE_bn (env_ok ho 26 E _ E1 E3 s2) (fun st2 F s3 s4 f1 f2 f3 => ?_)
                  exact act_ok h hN hw b1 s4 ⟨x1, x2⟩ (by omega) (fun q => by omega) (fun _ => ⟨f1, f2, fun z z0 z1 hz q => E2 z z0 z1 hz (f3 z q)⟩)
                · rw [optE_n, bnR_0 rfl, optE_n, bnR_0 rfl]
                  exact act_ok h hN hw b1 s2 ⟨x1, x2⟩ (by omega) (fun q => by omega) (fun q => by omega)
              | _ => cases hv
            | _ => cases hv
          | _ => cases hv
        | int n => exact RO_ok hs1 hv hV
        | arg n => exact RO_ok hs1 hv hV
        | index n => exact RO_ok hs1 hv hV
        | _ => cases hv
end
end
section
/-! The reference's rows of values and of what is seen. -/
def cel (s : SM) (lo hi v k n a b e h : Int) : Prop := (lo ≤ v ∧ v < hi) ∧ s.2 46 v = k ∧ s.2 47 v = n ∧ s.2 48 v = a ∧ s.2 49 v = b ∧ s.2 50 v = e ∧ s.2 51 v = h
/-- the row v (of an env: e) holds it -/
def VR (s : SM) (lo hi elo ehi : Int) : Term → Int → Prop
  | .int z, v => cel s lo hi v 0 z.toInt (-9) (-9) (-9) 0
  | .arg n, v => cel s lo hi v 1 n (-9) (-9) (-9) 0
  | .index x, v => cel s lo hi v 5 x (-9) (-9) (-9) 1
  | .sub (.index d) E, v => ∃ e, cel s lo hi v 2 d (-9) (-9) e 0 ∧ VR s lo hi elo ehi E e
  | .add A B, v => ∃ a b, cel s lo hi v 3 (-9) a b (-9) (if (hsL A || hsL B) = true then 1 else 0) ∧ VR s lo hi elo ehi A a ∧ VR s lo hi elo ehi B b
  | .div (.index b) E, v => ∃ e, cel s lo hi v 4 b (-9) (-9) e 1 ∧ VR s lo hi elo ehi E e
  | .length A, v => ∃ a, cel s lo hi v 6 (-9) a (-9) (-9) 1 ∧ VR s lo hi elo ehi A a
  | .rem (.index n) (.elem A (.elem B E)), v => ∃ a b e, cel s lo hi v 7 n a b e 1 ∧ VR s lo hi elo ehi A a ∧ ((B = .null ∧ b = -9) ∨ (B ≠ .null ∧ VR s lo hi elo ehi B b)) ∧ ((E = .null ∧ e = -9) ∨ (E ≠ .null ∧ VR s lo hi elo ehi E e))
  | .mul r x, e => (mlen r < 26 ∧ elo ≤ e ∧ e < ehi) ∧ VR s lo hi elo ehi r e ∧ ((x = .null ∧ s.2 53 (26 * e + mlen r) = -9) ∨ (x ≠ .null ∧ VR s lo hi elo ehi x (s.2 53 (26 * e + mlen r))))
  | .null, e => elo ≤ e ∧ e < ehi
  | _, _ => False
/-- cells from lo to hi stay -/
def KEEP (s w : SM) (lo hi elo ehi : Int) : Prop := (∀ f v, (f = 46 ∨ f = 47 ∨ f = 48 ∨ f = 49 ∨ f = 50 ∨ f = 51) → lo ≤ v → v < hi → w.2 f v = s.2 f v) ∧ ∀ j, 26 * elo ≤ j → j < 26 * ehi → w.2 53 j = s.2 53 j
theorem cel_k {s w : SM} {lo hi lo' hi' v k n a b e h elo ehi : Int} (hc : cel s lo hi v k n a b e h) (hk : KEEP s w lo hi elo ehi) (hl : lo' ≤ lo) (hh : hi ≤ hi') : cel w lo' hi' v k n a b e h := by
  obtain ⟨⟨h1, h2⟩, h3, h4, h5, h6, h7, h8⟩ := hc
  refine ⟨⟨by omega, by omega⟩, ?_, ?_, ?_, ?_, ?_, ?_⟩
  · rw [hk.1 46 v (by decide) h1 h2]; exact h3
  · rw [hk.1 47 v (by decide) h1 h2]; exact h4
  · rw [hk.1 48 v (by decide) h1 h2]; exact h5
  · rw [hk.1 49 v (by decide) h1 h2]; exact h6
  · rw [hk.1 50 v (by decide) h1 h2]; exact h7
  · rw [hk.1 51 v (by decide) h1 h2]; exact h8
theorem VR_k0 {s w : SM} {lo hi lo' hi' elo ehi elo' ehi' : Int} (hk : KEEP s w lo hi elo ehi) (hl : lo' ≤ lo) (hh : hi ≤ hi') (hel : elo' ≤ elo) (he : ehi ≤ ehi') : ∀ (n : Nat) (V : Term) (v : Int), SizeOf.sizeOf V < n → VR s lo hi elo ehi V v → VR w lo' hi' elo' ehi' V v := by
  intro n
  induction n with
  | zero => intro V v h; omega
  | succ n ih =>
    intro V v hn h
    have ce : ∀ {k m a b e q : Int}, cel s lo hi v k m a b e q → cel w lo' hi' v k m a b e q := fun h => cel_k h hk hl hh
    cases V with
    | int z => exact ce h
    | arg z => exact ce h
    | index z => exact ce h
    | sub d E =>
      cases d with
      | index d =>
        obtain ⟨e, h1, h2⟩ := h
        exact ⟨e, ce h1, ih E e (by simp at hn; omega) h2⟩
      | _ => exact h.elim
    | add A B =>
      obtain ⟨a, b, h1, h2, h3⟩ := h
      exact ⟨a, b, ce h1, ih A a (by simp at hn; omega) h2, ih B b (by simp at hn; omega) h3⟩
    | div d E =>
      cases d with
      | index d =>
        obtain ⟨e, h1, h2⟩ := h
        exact ⟨e, ce h1, ih E e (by simp at hn; omega) h2⟩
      | _ => exact h.elim
    | length A =>
      obtain ⟨a, h1, h2⟩ := h
      exact ⟨a, ce h1, ih A a (by simp at hn; omega) h2⟩
    | rem d q =>
      cases d with
      | index d =>
        cases q with
        | elem A q =>
          cases q with
          | elem B E =>
            obtain ⟨a, b, e, h1, h2, h3, h4⟩ := h
            refine ⟨a, b, e, ce h1, ih A a (by simp at hn; omega) h2, h3.imp id (fun q => ⟨q.1, ih B b (by simp at hn; omega) q.2⟩), h4.imp id (fun q => ⟨q.1, ih E e (by simp at hn; omega) q.2⟩)⟩
          | _ => exact h.elim
        | _ => exact h.elim
      | _ => exact h.elim
    | mul r x =>
      obtain ⟨⟨h0, h1, h2⟩, h3, h4⟩ := h
      have e53 : w.2 53 (26 * v + mlen r) = s.2 53 (26 * v + mlen r) := hk.2 _ (by omega) (by omega)
      refine ⟨⟨h0, by omega, by omega⟩, ih r v (by simp at hn; omega) h3, ?_⟩
      rw [e53]
      exact h4.imp id (fun q => ⟨q.1, ih x _ (by simp at hn; omega) q.2⟩)
    | null =>
      have h : elo ≤ v ∧ v < ehi := h
      show elo' ≤ v ∧ v < ehi'
      exact ⟨by omega, by omega⟩
    | _ => exact h.elim
theorem VR_k {s w : SM} {lo hi hi' elo ehi ehi' : Int} {V : Term} {v : Int} (h : VR s lo hi elo ehi V v) (hk : KEEP s w lo hi elo ehi) (hh : hi ≤ hi') (he : ehi ≤ ehi') : VR w lo hi' elo ehi' V v := VR_k0 hk (Int.le_refl _) hh (Int.le_refl _) he (SizeOf.sizeOf V + 1) V v (Nat.lt_succ_self _) h
theorem VR_g {s w : SM} {lo hi lo' hi' elo ehi elo' ehi' : Int} {V : Term} {v : Int} (h : VR s lo hi elo ehi V v) (hk : KEEP s w lo hi elo ehi) (hl : lo' ≤ lo) (hh : hi ≤ hi') (hel : elo' ≤ elo) (he : ehi ≤ ehi') : VR w lo' hi' elo' ehi' V v := VR_k0 hk hl hh hel he (SizeOf.sizeOf V + 1) V v (Nat.lt_succ_self _) h
/-- of an env, letter by letter -/
def EL (s : SM) (lo hi elo ehi : Int) (E : Term) (e x : Int) : Prop := (lkE E x = .null ∧ s.2 53 (26 * e + x) = -9) ∨ (lkE E x ≠ .null ∧ VR s lo hi elo ehi (lkE E x) (s.2 53 (26 * e + x)))
theorem VR_E {s : SM} {lo hi elo ehi : Int} : ∀ (n : Nat) (E : Term) (e : Int), isE n E → n ≤ 26 → (VR s lo hi elo ehi E e ↔ ((elo ≤ e ∧ e < ehi) ∧ ∀ x : Int, 0 ≤ x → x < n → EL s lo hi elo ehi E e x)) := by
  intro n
  induction n with
  | zero =>
    intro E e h _
    cases E with
    | null => exact ⟨fun q => ⟨q, fun x x0 x1 => by omega⟩, fun q => q.1⟩
    | _ => exact h.elim
  | succ n ih =>
    intro E e h hn
    cases E with
    | mul r y =>
      have hr : isE n r := h
      have hl := isE_len n r hr
      have i1 := ih r e hr (by omega)
      have lk : ∀ x, lkE (.mul r y) x = if (mlen r : Int) = x then y else lkE r x := fun x => rfl
      constructor
      · rintro ⟨⟨h0, h1, h2⟩, h3, h4⟩
        refine ⟨⟨h1, h2⟩, fun x x0 x1 => ?_⟩
        unfold EL
        rw [lk]
        by_cases q : (mlen r : Int) = x
        · rw [if_pos q, ← q]; exact h4
        · rw [if_neg q]
          exact (i1.mp h3).2 x x0 (by omega)
      · rintro ⟨⟨h1, h2⟩, h3⟩
        refine ⟨⟨by omega, h1, h2⟩, i1.mpr ⟨⟨h1, h2⟩, fun x x0 x1 => ?_⟩, ?_⟩
        · have := h3 x x0 (by omega)
          unfold EL at this ⊢
          rw [lk, if_neg (by omega)] at this
          exact this
        · have := h3 (mlen r) (by omega) (by omega)
          unfold EL at this
          rw [lk, if_pos rfl] at this
          exact this
    | _ => exact h.elim
/-- a new value's cells -/
def VAL (s w : SM) (k n a b e : Int) : Prop := eqx [52] [46, 47, 48, 49, 50, 51] s w ∧ w.1 52 = s.1 52 + 1 ∧ (∀ f v, (f = 46 ∨ f = 47 ∨ f = 48 ∨ f = 49 ∨ f = 50 ∨ f = 51) → v ≠ s.1 52 → w.2 f v = s.2 f v) ∧ w.2 46 (s.1 52) = k ∧ w.2 47 (s.1 52) = n ∧ w.2 48 (s.1 52) = a ∧ w.2 49 (s.1 52) = b ∧ w.2 50 (s.1 52) = e ∧ w.2 51 (s.1 52) = if 4 ≤ k ∨ (k = 3 ∧ a ≠ -9 ∧ b ≠ -9 ∧ (s.2 51 a ≠ 0 ∨ s.2 51 b ≠ 0)) then 1 else 0
section
variable {iv : List (Int × Int)} {L : Nat} {h0 : MH} {s : SM} {t : Term} {d : Nat}
theorem val_ok {k n a b e : Int} {F : Int → SM → Prop} (h52 : 0 ≤ s.1 52 ∧ s.1 52 < 2600) (hab : k = 3 → a ≠ -9 → b ≠ -9 → (0 ≤ a ∧ a < 2600) ∧ 0 ≤ b ∧ b < 2600) (hF : ∀ w, VAL s w k n a b e → F (s.1 52) w) : cm iv L h0 d 121 [vr 307, vi k, vi n, vi a, vi b, vi e] s (qi F) := by
  have fin : ∀ z, z = (if 4 ≤ k ∨ (k = 3 ∧ a ≠ -9 ∧ b ≠ -9 ∧ (s.2 51 a ≠ 0 ∨ s.2 51 b ≠ 0)) then 1 else 0) → F (s.1 52) (ua (ua (ua (ua (ua (ua (us s 52 ((s.1 52) + 1)) 46 (s.1 52) k) 47 (s.1 52) n) 48 (s.1 52) a) 49 (s.1 52) b) 50 (s.1 52) e) 51 (s.1 52) z) := fun z hz => by
    refine hF _ ⟨eqx_ua (eqx_ua (eqx_ua (eqx_ua (eqx_ua (eqx_ua (eqx_us eqx.rf (by decide)) (by decide)) (by decide)) (by decide)) (by decide)) (by decide)) (by decide), rfl, fun f v hf hv => ?_, ?_, ?_, ?_, ?_, ?_, ?_⟩
    · simp [ua_2, us_2, hv]
    · simp [ua_2, us_2]
    · simp [ua_2, us_2]
    · simp [ua_2, us_2]
    · simp [ua_2, us_2]
    · simp [ua_2, us_2]
    · rw [← hz]; simp [ua_2]
  refine B121 ⟨by omega, by omega, fun q => fin 1 ?_, fun q => ⟨fun q2 => fin 0 ?_, fun q2 => ⟨fun q3 => fin 0 ?_, fun q3 => ⟨fun q4 => fin 0 ?_, fun q4 => ?_⟩⟩⟩⟩
  · rw [if_pos (Or.inl q)]
  · rw [if_neg (by omega)]
  · rw [if_neg (by omega)]
  · rw [if_neg (by omega)]
  · obtain ⟨r1, r2⟩ := hab q2 q3 q4
    refine ⟨r1, fun q5 => fin 1 ?_, fun q5 => ⟨r2, fun q6 => fin 0 ?_, fun q6 => fin 1 ?_⟩⟩
    · rw [if_pos (Or.inr ⟨q2, q3, q4, Or.inl q5⟩)]
    · rw [if_neg (by omega)]
    · rw [if_pos (Or.inr ⟨q2, q3, q4, Or.inr q6⟩)]
/-- a new env -/
def NEW (s w : SM) (a : Int) : Prop := eqx [54] [53] s w ∧ w.1 54 = s.1 54 + 1 ∧ (∀ j, j < 26 * s.1 54 ∨ 26 * s.1 54 + 26 ≤ j → w.2 53 j = s.2 53 j) ∧ ∀ x, 0 ≤ x → x < 26 → w.2 53 (26 * s.1 54 + x) = if a = -9 then -9 else s.2 53 (26 * a + x)
theorem newEnv_ok {a : Int} {F : Int → SM → Prop} (h54 : 0 ≤ s.1 54 ∧ s.1 54 < 1280) (ha : a = -9 ∨ (0 ≤ a ∧ a < s.1 54) ∨ (s.1 54 < a ∧ a < 1280)) (hF : ∀ w, NEW s w a → F (s.1 54) w) : cm iv L h0 d 122 [vr 307, vi a] s (qi F) := by
  have key : ∀ (m : Nat) (k : Int) (w : SM), 0 ≤ k → k + m = 26 → eqx [54] [53] s w → w.1 54 = s.1 54 + 1 → (∀ j, j < 26 * s.1 54 ∨ 26 * s.1 54 + k ≤ j → w.2 53 j = s.2 53 j) → (∀ x, 0 ≤ x → x < k → w.2 53 (26 * s.1 54 + x) = if a = -9 then -9 else s.2 53 (26 * a + x)) → wm iv L h0 d 122 17 [lr 307, li a, li (s.1 54), li k] [] w (qi F) := by
    intro m
    induction m with
    | zero =>
      intro k w k0 hk w1 w2 w3 w4
      obtain rfl : k = 26 := by omega
      exact B122_17 ⟨fun _ => hF w ⟨w1, w2, w3, w4⟩, fun q => by omega⟩
    | succ m ih =>
      intro k w k0 hk w1 w2 w3 w4
      have nx : ∀ z, z = (if a = -9 then -9 else s.2 53 (26 * a + k)) → wm iv L h0 d 122 17 [lr 307, li a, li (s.1 54), li (k + 1)] [] (ua w 53 (26 * s.1 54 + k) z) (qi F) := fun z hz => by
        refine ih (k + 1) _ (by omega) (by omega) (eqx_ua w1 (by decide)) w2 (fun j hj => ?_) (fun x x0 x1 => ?_)
        · rw [ua_2, if_neg (by omega)]
          exact w3 j (by omega)
        · rw [ua_2]
          by_cases q : x = k
          · rw [if_pos (by rw [q]; exact ⟨rfl, rfl⟩), q]
            exact hz
          · rw [if_neg (by omega)]
            exact w4 x x0 (by omega)
      refine B122_17 ⟨fun q => by omega, fun _ => ⟨by omega, by omega, fun q => ⟨by omega, by omega, by omega, by omega, by omega, nx _ ?_⟩, fun q => ⟨by omega, by omega, nx _ ?_⟩⟩⟩
      · rw [if_neg q]
        exact w3 _ (by omega)
      · rw [if_pos q]
  exact B122 ⟨by omega, key 26 0 _ (by decide) (by decide) (eqx_us eqx.rf (by decide)) rfl (fun j _ => rfl) (fun x x0 x1 => by omega)⟩
end
end
section
/-! The reference works as evw says: what leads there. -/
def vkd : Term → Int
  | .int _ => 0
  | .arg _ => 1
  | .sub _ _ => 2
  | .add _ _ => 3
  | .div _ _ => 4
  | .index _ => 5
  | .length _ => 6
  | _ => 7
theorem VR_kind {s : SM} {lo hi elo ehi : Int} {V : Term} {v : Int} (hv : isV V = true) (h : VR s lo hi elo ehi V v) : s.2 46 v = vkd V ∧ (lo ≤ v ∧ v < hi) ∧ s.2 51 v = if hsL V = true then 1 else 0 := by
  cases V with
  | int z => obtain ⟨h1, h2, _, _, _, _, h3⟩ := h; exact ⟨h2, h1, h3⟩
  | arg z => obtain ⟨h1, h2, _, _, _, _, h3⟩ := h; exact ⟨h2, h1, h3⟩
  | index z => obtain ⟨h1, h2, _, _, _, _, h3⟩ := h; exact ⟨h2, h1, h3⟩
  | sub d E =>
    cases d with
    | index d => obtain ⟨e, ⟨h1, h2, _, _, _, _, h3⟩, _⟩ := h; exact ⟨h2, h1, h3⟩
    | _ => cases hv
  | add A B => obtain ⟨a, b, ⟨h1, h2, _, _, _, _, h3⟩, _⟩ := h; exact ⟨h2, h1, h3⟩
  | div d E =>
    cases d with
    | index d => obtain ⟨e, ⟨h1, h2, _, _, _, _, h3⟩, _⟩ := h; exact ⟨h2, h1, h3⟩
    | _ => cases hv
  | length A => obtain ⟨a, ⟨h1, h2, _, _, _, _, h3⟩, _⟩ := h; exact ⟨h2, h1, h3⟩
  | rem d q =>
    cases d with
    | index d =>
      cases q with
      | elem A q =>
        cases q with
        | elem B E => obtain ⟨a, b, e, ⟨h1, h2, _, _, _, _, h3⟩, _⟩ := h; exact ⟨h2, h1, h3⟩
        | _ => cases hv
      | _ => cases hv
    | _ => cases hv
  | _ => cases hv
theorem isW_kd {V : Term} (hv : isV V = true) : isW V = decide (4 ≤ vkd V) := by
  cases V with
  | _ => first | rfl | (cases hv)
/-- cells outside of those made since stay -/
def FRM (s w : SM) : Prop := eqx [52, 54, 56, 58, 59, 60] [46, 47, 48, 49, 50, 51, 53] s w ∧ (∀ f v, (f = 46 ∨ f = 47 ∨ f = 48 ∨ f = 49 ∨ f = 50 ∨ f = 51) → (v < s.1 52 ∨ w.1 52 ≤ v) → w.2 f v = s.2 f v) ∧ ∀ j, (j < 26 * s.1 54 ∨ 26 * w.1 54 ≤ j) → w.2 53 j = s.2 53 j
theorem FRM.rf {s : SM} : FRM s s := ⟨eqx.rf, fun _ _ _ _ => rfl, fun _ _ => rfl⟩
theorem FRM.tr {s w v : SM} (h1 : FRM s w) (h2 : FRM w v) (a1 : s.1 52 ≤ w.1 52 ∧ w.1 52 ≤ v.1 52) (a2 : s.1 54 ≤ w.1 54 ∧ w.1 54 ≤ v.1 54) : FRM s v :=
  ⟨h1.1.tr h2.1, fun f x hf hx => (h2.2.1 f x hf (by omega)).trans (h1.2.1 f x hf (by omega)), fun j hj => (h2.2.2 j (by omega)).trans (h1.2.2 j (by omega))⟩
theorem FRM.keep {s w : SM} {lo hi elo ehi : Int} (h : FRM s w) (h1 : hi ≤ s.1 52 ∨ w.1 52 ≤ lo) (h2 : ehi ≤ s.1 54 ∨ w.1 54 ≤ elo) : KEEP s w lo hi elo ehi :=
  ⟨fun f v hf v0 v1 => h.2.1 f v hf (by omega), fun j j0 j1 => h.2.2 j (by omega)⟩
/-- what working does: at most so many values and envs for each step, and some more -/
def WP (B C : Int) (kv ke : Int) (s : SM) (st : Int) (R : RS) (r : Int) (w : SM) : Prop := FRM s w ∧ (s.1 52 ≤ w.1 52 ∧ w.1 52 ≤ s.1 52 + 2 * (R.1 - st) + kv) ∧ (s.1 54 ≤ w.1 54 ∧ w.1 54 ≤ s.1 54 + 2 * (R.1 - st) + ke) ∧ (w.1 56 = R.1 ∧ w.1 58 = s.1 58 ∧ w.1 59 = R.2.1 ∧ w.1 60 = R.2.2.1) ∧ (R.2.1 = 0 → VR w B (w.1 52) C (w.1 54) R.2.2.2 r)
theorem WP.up {B C kv ke kv' ke' st r : Int} {s w : SM} {R : RS} (h : WP B C kv ke s st R r w) (h1 : kv ≤ kv') (h2 : ke ≤ ke') : WP B C kv' ke' s st R r w := by
  obtain ⟨a1, a2, a3, a4, a5⟩ := h
  exact ⟨a1, ⟨a2.1, by omega⟩, ⟨a3.1, by omega⟩, a4, a5⟩
theorem WP.st {B C kv ke st r r' : Int} {s w : SM} {R : RS} (h : WP B C kv ke s st R r w) (hR : R.2.1 ≠ 0) : WP B C kv ke s st R r' w := by
  obtain ⟨a1, a2, a3, a4, a5⟩ := h
  exact ⟨a1, a2, a3, a4, fun q => absurd q hR⟩
theorem WP.tr {B C kv ke kv' ke' st r r' : Int} {s w v : SM} {R R' : RS} (h : WP B C kv ke s st R r w) (h' : WP B C kv' ke' w R.1 R' r' v) : WP B C (kv + kv') (ke + ke') s st R' r' v := by
  obtain ⟨a1, a2, a3, a4, a5⟩ := h
  obtain ⟨b1, b2, b3, b4, b5⟩ := h'
  exact ⟨a1.tr b1 ⟨a2.1, b2.1⟩ ⟨a3.1, b3.1⟩, ⟨by omega, by omega⟩, ⟨by omega, by omega⟩, ⟨b4.1, b4.2.1.trans a4.2.1, b4.2.2⟩, b5⟩
/-- a state in the midst of working: so many levels may be begun, so many steps are done, so much room is left over -/
def WS (σ : SM) (most B C : Int) (n : Nat) (st k : Int) (s : SM) : Prop := eqx [52, 54, 56, 58, 59, 60] [46, 47, 48, 49, 50, 51, 53] σ s ∧ (s.1 56 = st ∧ s.1 58 = 60 - n ∧ s.1 59 = 0 ∧ s.1 60 = -9) ∧ (0 ≤ st ∧ st ≤ most) ∧ (B ≤ s.1 52 ∧ s.1 52 + 2 * (most - st) + k ≤ 1300 * σ.1 55 + 610) ∧ C ≤ s.1 54 ∧ s.1 54 + 2 * (most - st) + k ≤ 640 * σ.1 55 + 610
theorem WS.up {σ s : SM} {most B C st k k' : Int} {n : Nat} (h : WS σ most B C n st k s) (hk : k' ≤ k) : WS σ most B C n st k' s := by
  obtain ⟨a1, a2, a3, a4, a5⟩ := h
  exact ⟨a1, a2, a3, by omega, by omega⟩
theorem WS.nx {σ s w : SM} {most B C st k kv ke k' r : Int} {n : Nat} {R : RS} (h : WS σ most B C n st k s) (hw : WP B C kv ke s st R r w) (h1 : st ≤ R.1 ∧ R.1 ≤ most) (h2 : R.2.1 = 0 ∧ R.2.2.1 = -9) (hk : kv + k' ≤ k ∧ ke + k' ≤ k) : WS σ most B C n R.1 k' w := by
  obtain ⟨a1, a2, a3, a4, a5⟩ := h
  obtain ⟨b1, b2, b3, b4, b5⟩ := hw
  exact ⟨a1.tr b1.1, ⟨b4.1, by omega, by omega, by omega⟩, by omega, by omega, by omega⟩
/-- the ground of a working -/
def WCX (σ : SM) (t : Term) (most B C : Int) : Prop := (SHT σ t ∧ NB σ ∧ RSN σ t) ∧ σ.1 57 = most ∧ (0 ≤ most ∧ most ≤ 300) ∧ ((σ.1 55 = 0 ∨ σ.1 55 = 1) ∧ 1300 * σ.1 55 ≤ B ∧ 640 * σ.1 55 ≤ C) ∧ ∀ b, 0 ≤ b → b < σ.1 8 → σ.2 42 b = 0 ∨ (b < σ.2 42 b - 1 ∧ σ.2 42 b - 1 < σ.1 8)
/-- the other half -/
def OLDH (σ : SM) (lo hi elo ehi : Int) : Prop := (0 ≤ lo ∧ hi ≤ 2600 ∧ 0 ≤ elo ∧ ehi ≤ 1280) ∧ (hi ≤ 1300 * σ.1 55 ∨ 1300 * σ.1 55 + 1300 ≤ lo) ∧ (ehi ≤ 640 * σ.1 55 ∨ 640 * σ.1 55 + 640 ≤ elo)
section
variable {iv : List (Int × Int)} {L : Nat} {h0 : MH} {σ s : SM} {t : Term} {d n : Nat} {most B C st k : Int}
theorem WCX.bc (h : WCX σ t most B C) : (0 ≤ most ∧ most ≤ 300) ∧ ((σ.1 55 = 0 ∨ σ.1 55 = 1) ∧ 1300 * σ.1 55 ≤ B ∧ 640 * σ.1 55 ≤ C) := ⟨h.2.2.1, h.2.2.2.1⟩
/-- a new value -/
theorem wp_new {kk nn a b e : Int} {V : Term} {F : Int → SM → Prop} (hX : WCX σ t most B C) (hS : WS σ most B C n st k s) (hk : 0 ≤ k) (hab : kk = 3 → a ≠ -9 → b ≠ -9 → (0 ≤ a ∧ a < 2600) ∧ 0 ≤ b ∧ b < 2600) (hV : ∀ w, VAL s w kk nn a b e → KEEP s w B (s.1 52) C (s.1 54) → (B ≤ s.1 52 ∧ s.1 52 < w.1 52) → w.1 54 = s.1 54 → VR w B (w.1 52) C (w.1 54) V (s.1 52)) (hF : ∀ w, WP B C 1 0 s st (rok st V) (s.1 52) w → F (s.1 52) w) : cm iv L h0 d 121 [vr 307, vi kk, vi nn, vi a, vi b, vi e] s (qi F) := by
  obtain ⟨m1, m2⟩ := hX.bc
  obtain ⟨a1, a2, a3, a4, a5⟩ := hS
  refine val_ok (by omega) hab (fun w hw => hF w ?_)
  obtain ⟨w1, w2, w3, w4⟩ := id hw
  have w54 : w.1 54 = s.1 54 := w1.1 54 (by decide)
  have fr : FRM s w := ⟨w1.up (by decide) (by decide), fun f v hf hv => w3 f v hf (by omega), fun j _ => by rw [w1.2 53 (by decide)]⟩
  refine ⟨fr, ⟨by omega, by show w.1 52 ≤ s.1 52 + 2 * (st - st) + 1; omega⟩, ⟨by omega, by show w.1 54 ≤ s.1 54 + 2 * (st - st) + 0; omega⟩, ⟨?_, w1.1 58 (by decide), ?_, ?_⟩, fun _ => hV w hw (fr.keep (Or.inl (Int.le_refl _)) (Or.inl (Int.le_refl _))) ⟨a4.1, by omega⟩ w54⟩
  · rw [w1.1 56 (by decide)]; exact a2.1
  · rw [w1.1 59 (by decide)]; exact a2.2.2.1
  · rw [w1.1 60 (by decide)]; exact a2.2.2.2
theorem vcel {s w : SM} {kk nn a b e h : Int} (hw : VAL s w kk nn a b e) (hlo : B ≤ s.1 52 ∧ s.1 52 < w.1 52) (hh : h = if 4 ≤ kk ∨ (kk = 3 ∧ a ≠ -9 ∧ b ≠ -9 ∧ (s.2 51 a ≠ 0 ∨ s.2 51 b ≠ 0)) then 1 else 0) : cel w B (w.1 52) (s.1 52) kk nn a b e h := by
  obtain ⟨w1, w2, w3, w4, w5, w6, w7, w8, w9⟩ := hw
  exact ⟨hlo, w4, w5, w6, w7, w8, by rw [hh]; exact w9⟩
/-- it stopped -/
theorem wp_stop {how b : Int} {F : Int → SM → Prop} (hS : WS σ most B C n st k s) (hF : ∀ w, WP B C 0 0 s st (rst st how b) (-9) w → F (-9) w) (hh : how ≠ 0) : cm iv L h0 d 124 [vr 307, vi how, vi b] s (qi F) := by
  obtain ⟨a1, a2, a3, a4, a5⟩ := hS
  refine B124 (hF _ ⟨⟨eqx_us (eqx_us eqx.rf (by decide)) (by decide), fun _ _ _ _ => rfl, fun _ _ => rfl⟩, ⟨Int.le_refl _, by show s.1 52 ≤ s.1 52 + 2 * (st - st) + 0; omega⟩, ⟨Int.le_refl _, by show s.1 54 ≤ s.1 54 + 2 * (st - st) + 0; omega⟩, ⟨a2.1, rfl, rfl, rfl⟩, fun q => absurd q hh⟩)
theorem isLeft_ok {V : Term} {v lo hi elo ehi : Int} {F : Int → SM → Prop} (hv : isV V = true) (h : VR s lo hi elo ehi V v) (h0' : 0 ≤ lo ∧ hi ≤ 2600) (hF : F (if isW V = true then 1 else 0) s) : cm iv L h0 d 125 [vr 307, vi v] s (qi F) := by
  obtain ⟨h1, h2, h3⟩ := VR_kind hv h
  rw [isW_kd hv] at hF
  refine B125 ⟨by omega, fun q => ?_, fun q => ?_⟩
  · rw [decide_eq_false (by omega), if_neg (by decide)] at hF; exact hF
  · rw [decide_eq_true (by omega), if_pos rfl] at hF; exact hF
/-- what is LEFT of an act, or a clash -/
theorem wp_lft {b x y e : Int} {X Y E : Term} {F : Int → SM → Prop} (hX : WCX σ t most B C) (hS : WS σ most B C n st k s) (hk : 0 ≤ k) (hb : 0 ≤ b) (hx : isV X = true ∧ VR s B (s.1 52) C (s.1 54) X x) (hy : (Y = .null ∧ y = -9) ∨ (Y ≠ .null ∧ VR s B (s.1 52) C (s.1 54) Y y)) (he : (E = .null ∧ e = -9) ∨ (E ≠ .null ∧ VR s B (s.1 52) C (s.1 54) E e)) (hF : ∀ w, WP B C 1 0 s st (rok st (.rem (.index b.toNat) (.elem X (.elem Y E)))) (s.1 52) w → F (s.1 52) w) : cm iv L h0 d 121 [vr 307, vi 7, vi b, vi x, vi y, vi e] s (qi F) := by
  refine wp_new hX hS hk (fun q => by omega) (fun w hw hkp hlo h54 => ?_) hF
  have e54 : s.1 54 ≤ w.1 54 := by omega
  have h52 : s.1 52 ≤ w.1 52 := by omega
  refine ⟨x, y, e, ?_, VR_k hx.2 hkp h52 e54, hy.imp id (fun q => ⟨q.1, VR_k q.2 hkp h52 e54⟩), he.imp id (fun q => ⟨q.1, VR_k q.2 hkp h52 e54⟩)⟩
  rw [show ((b.toNat : Nat) : Int) = b by omega]
  exact vcel hw hlo (by rw [if_pos (Or.inl (by decide))])
theorem filling_ok {b : Int} {F : Int → SM → Prop} (hX : WCX σ t most B C) (hs : s.2 42 = σ.2 42) (hb : 0 ≤ b ∧ b < σ.1 8) (hF : F (if fllF (σ.2 42) b = b then -9 else fllF (σ.2 42) b) s) : cm iv L h0 d 130 [vr 307, vi b] s (qi F) := by
  have h8 := hX.1.1.2.2.2.2.1
  have fb := hX.2.2.2.2
  have key : ∀ (n : Nat) (c : Int), 0 ≤ c → c < σ.1 8 → σ.1 8 - c ≤ n → F (if fllN (σ.2 42) n c = b then -9 else fllN (σ.2 42) n c) s → wm iv L h0 d 130 2 [lr 307, li b, li c] [] s (qi F) := by
    intro n
    induction n with
    | zero => intro c c0 c1 hn; omega
    | succ n ih =>
      intro c c0 c1 hn hF
      rw [show fllN (σ.2 42) (n + 1) c = if 0 < σ.2 42 c then fllN (σ.2 42) n (σ.2 42 c - 1) else c from rfl] at hF
      refine B130_2 ⟨by omega, fun q => ?_, fun q => ?_⟩
      · rw [hs] at q
        simp only [if_neg (show ¬ 0 < σ.2 42 c by omega)] at hF
        refine ⟨fun q2 => ?_, fun q2 => ?_⟩
        · rw [if_neg q2] at hF; exact hF
        · rw [if_pos q2] at hF; exact hF
      · rw [hs] at q ⊢
        simp only [if_pos q] at hF
        have := fb c c0 c1
        exact ⟨by omega, ih _ (by omega) (by omega) (by omega) hF⟩
  exact B130 (key 3004 b hb.1 hb.2 (by omega) hF)
/-- a new env: one with a letter more -/
theorem wp_env {a : Int} {E : Term} {F : Int → SM → Prop} (hX : WCX σ t most B C) (hS : WS σ most B C n st k s) (hk : 1 ≤ k) (hE : isE 26 E) (ha : VR s B (s.1 52) C (s.1 54) E a) (hF : ∀ w, WP B C 0 1 s st (rok st E) (s.1 54) w → w.1 54 = s.1 54 + 1 → w.1 52 = s.1 52 → w.2 10 = s.2 10 → w.2 14 = s.2 14 → (∀ y, 0 ≤ y → y < 26 → EL w B (s.1 52) C (s.1 54) E (s.1 54) y) → KEEP s w B (s.1 52) C (s.1 54) → F (s.1 54) w) : cm iv L h0 d 122 [vr 307, vi a] s (qi F) := by
  obtain ⟨m1, m2⟩ := hX.bc
  obtain ⟨a1, a2, a3, a4, a5⟩ := hS
  obtain ⟨c1, c2⟩ := (VR_E 26 E a hE (Nat.le_refl _)).mp ha
  refine newEnv_ok (by omega) (Or.inr (Or.inl ⟨by omega, c1.2⟩)) (fun w hw => ?_)
  obtain ⟨w1, w2, w3, w4⟩ := hw
  have w52 : w.1 52 = s.1 52 := w1.1 52 (by decide)
  have fr : FRM s w := ⟨w1.up (by decide) (by decide), fun f v hf _ => by rw [w1.2 f (by simp; omega)], fun j hj => w3 j (by omega)⟩
  have hkp := fr.keep (lo := B) (elo := C) (Or.inl (Int.le_refl _)) (Or.inl (Int.le_refl _))
  have el : ∀ y, 0 ≤ y → y < 26 → EL w B (s.1 52) C (s.1 54) E (s.1 54) y := fun y y0 y1 => by
    have e := w4 y y0 y1
    rw [if_neg (by omega)] at e
    unfold EL
    rw [e]
    exact (c2 y y0 y1).imp id (fun q => ⟨q.1, VR_k q.2 hkp (Int.le_refl _) (Int.le_refl _)⟩)
  refine hF w ⟨fr, ⟨by omega, by show w.1 52 ≤ s.1 52 + 2 * (st - st) + 0; omega⟩, ⟨by omega, by show w.1 54 ≤ s.1 54 + 2 * (st - st) + 1; omega⟩, ⟨?_, w1.1 58 (by decide), ?_, ?_⟩, fun _ => (VR_E 26 E _ hE (Nat.le_refl _)).mpr ⟨by omega, fun x x0 x1 => ?_⟩⟩ w2 w52 (w1.2 10 (by decide)) (w1.2 14 (by decide)) el hkp
  · rw [w1.1 56 (by decide)]; exact a2.1
  · rw [w1.1 59 (by decide)]; exact a2.2.2.1
  · rw [w1.1 60 (by decide)]; exact a2.2.2.2
  · exact (el x x0 x1).imp id (fun q => ⟨q.1, VR_k q.2 ⟨fun _ _ _ _ _ => rfl, fun _ _ _ => rfl⟩ (by omega) (by omega)⟩)
/-- a letter of the newest env is bound -/
theorem env_put {s w : SM} {x v : Int} {V E : Term} {e : Int} (hw : w = ua s 53 (26 * e + x) v) (hE : isE 26 E) (hx : 0 ≤ x ∧ x < 26) (he : s.1 54 = e + 1) (hV : isV V = true ∧ VR s B (s.1 52) C e V v) (h : ∀ y, 0 ≤ y → y < 26 → EL s B (s.1 52) C e E e y) (hC : C ≤ e) : VR w B (w.1 52) C (w.1 54) (upE E x V) e := by
  subst hw
  have k0 : KEEP s (ua s 53 (26 * e + x) v) B (s.1 52) C e := ⟨fun f u hf _ _ => by rw [ua_2, if_neg (by omega)], fun j j0 j1 => by rw [ua_2, if_neg (by omega)]⟩
  have w54 : (ua s 53 (26 * e + x) v).1 54 = e + 1 := he
  refine (VR_E 26 _ e (upE_is 26 E x V hE) (Nat.le_refl _)).mpr ⟨by omega, fun y y0 y1 => ?_⟩
  unfold EL
  rw [lkE_up 26 E x V y hE hx.1 hx.2, ua_2]
  by_cases q : y = x
  · rw [if_pos q, if_pos ⟨rfl, by omega⟩]
    exact Or.inr ⟨isV_nn hV.1, VR_k hV.2 k0 (Int.le_refl _) (by omega)⟩
  · rw [if_neg q, if_neg (by omega)]
    exact (h y y0 y1).imp id (fun q => ⟨q.1, VR_k q.2 k0 (Int.le_refl _) (by omega)⟩)
/-- a new env with a letter bound -/
theorem wp_bind {a x v : Int} {E V : Term} {F : Int → SM → Prop} (hX : WCX σ t most B C) (hS : WS σ most B C n st k s) (hk : 1 ≤ k) (hE : isE 26 E) (hx : 0 ≤ x ∧ x < 26) (ha : VR s B (s.1 52) C (s.1 54) E a) (hV : isV V = true ∧ VR s B (s.1 52) C (s.1 54) V v) (hF : ∀ w, w.2 10 = s.2 10 → w.2 14 = s.2 14 → WP B C 0 1 s st (rok st (upE E x V)) (s.1 54) (ua w 53 (26 * s.1 54 + x) v) → F (s.1 54) w) : cm iv L h0 d 122 [vr 307, vi a] s (qi F) := by
  have hC := hS.2.2.2.2.1
  refine wp_env hX hS hk hE ha (fun w hw w54 w52 w10 w14 el hkp => hF w w10 w14 ?_)
  obtain ⟨b1, b2, b3, b4, b5⟩ := hw
  refine ⟨⟨b1.1.tr (eqx_ua eqx.rf (by decide)), fun f u hf hu => ?_, fun j hj => ?_⟩, b2, b3, b4, fun _ => ?_⟩
  · rw [ua_2, if_neg (by omega)]; exact b1.2.1 f u hf hu
  · have hj : j < 26 * s.1 54 ∨ 26 * w.1 54 ≤ j := hj
    rw [ua_2, if_neg (by omega)]; exact b1.2.2 j hj
  · exact env_put rfl hE hx w54 ⟨hV.1, by rw [w52]; exact VR_k hV.2 hkp (Int.le_refl _) (Int.le_refl _)⟩ (fun y y0 y1 => by rw [w52]; exact el y y0 y1) hC
end
end
section
/-! The reference works as evw says: an act, a node. -/
abbrev EV (σ : SM) (most : Int) (n : Nat) : EW × EO := evw (σ.2 9) (σ.2 10) (σ.2 14) (σ.2 21) (σ.2 42) most n
def WCO (iv : List (Int × Int)) (L : Nat) (h0 : MH) (σ : SM) (t : Term) (most B C : Int) (n : Nat) : Prop := ∀ (b e st : Int) (E : Term) (s : SM), b ∈ fl t → isE 26 E → VN σ t E → cov σ b E → VR s B (s.1 52) C (s.1 54) E e → WS σ most B C n st 0 s → cm iv L h0 (3 * n + 8) 126 [vr 307, vi b, vi e] s (qi (WP B C 0 0 s st ((EV σ most n).1 b E st)))
def OCO (iv : List (Int × Int)) (L : Nat) (h0 : MH) (σ : SM) (t : Term) (most B C lo hi elo ehi : Int) (n : Nat) : Prop := ∀ (v st : Int) (V : Term) (s : SM), isV V = true → VO σ t V → VR s lo hi elo ehi V v → WS σ most B C n st 0 s → cm iv L h0 (3 * n + 8) 132 [vr 307, vi v] s (qi (WP B C 0 0 s st ((EV σ most n).2 V st)))
/-- nodes are as they were when it began -/
theorem WS.row {σ s : SM} {most B C st k : Int} {n : Nat} (h : WS σ most B C n st k s) {f : Nat} (hf : f ≠ 46 ∧ f ≠ 47 ∧ f ≠ 48 ∧ f ≠ 49 ∧ f ≠ 50 ∧ f ≠ 51 ∧ f ≠ 53) : s.2 f = σ.2 f := h.1.2 f (by simp; omega)
section
variable {iv : List (Int × Int)} {L : Nat} {h0 : MH} {σ s : SM} {t : Term} {d n : Nat} {most B C st k : Int}
theorem reck_ok {b x y : Int} {X Y : Term} {F : Int → SM → Prop} (hX : WCX σ t most B C) (hS : WS σ most B C n st k s) (hk : 0 ≤ k) (hb : b ∈ fl t) (hso : σ.2 9 b = 4 ∨ σ.2 9 b = 5 ∨ σ.2 9 b = 6 ∨ σ.2 9 b = 7) (hx : isV X = true ∧ VR s B (s.1 52) C (s.1 54) X x) (hy : isV Y = true ∧ VR s B (s.1 52) C (s.1 54) Y y) (hF : ∀ r w, WP B C 1 0 s st (rckE (σ.2 9 b) b X Y st) r w → F r w) : cm iv L h0 (d + 1) 129 [vr 307, vi b, vi x, vi y] s (qi F) := by
  obtain ⟨m1, m2⟩ := hX.bc
  have hbl := hX.1.1.lt hb
  have h52 : B ≤ s.1 52 ∧ s.1 52 ≤ 1300 * σ.1 55 + 610 := by obtain ⟨a1, a2, a3, a4, a5⟩ := hS; omega
  have e9 : s.2 9 = σ.2 9 := hS.row (by decide)
  obtain ⟨kx1, kx2, kx3⟩ := VR_kind hx.1 hx.2
  obtain ⟨ky1, ky2, ky3⟩ := VR_kind hy.1 hy.2
  unfold rckE at hF
  have lft : (isW X || isW Y) = true → cm iv L h0 d 121 [vr 307, vi 7, vi b, vi x, vi y, vi (-9)] s (qi fun r4 s3 => F r4 s3) := fun q => by
    rw [if_pos q] at hF
    exact wp_lft hX hS hk hbl.1 hx (Or.inr ⟨isV_nn hy.1, hy.2⟩) (Or.inl ⟨rfl, rfl⟩) (fun w hw => hF _ w hw)
  refine B129 (isLeft_ok hx.1 hx.2 (by omega) ⟨fun q => lft ?_, fun q => isLeft_ok hy.1 hy.2 (by omega) ⟨fun q2 => ?_, fun q2 => lft ?_⟩⟩)
  · have : isW X = true := Classical.byContradiction fun c => by rw [if_neg c] at q; exact q rfl
    rw [this]; rfl
  · have wx : isW X = false := by
      cases h : isW X with
      | false => rfl
      | true => rw [h] at q; cases q
    have wy : isW Y = false := by
      cases h : isW Y with
      | false => rfl
      | true => rw [h] at q2; cases q2
    rw [wx, wy, if_neg (by decide)] at hF
    have clash : (∀ m n, ¬ (X = .int m ∧ Y = .int n)) → ∀ r w, WP B C 1 0 s st (rst st 3 b) r w → F r w := fun hno r w hw => by
      refine hF r w ?_
      split
      · exact absurd ⟨rfl, rfl⟩ (hno _ _)
      · exact hw
    have stop3 : (∀ m n, ¬ (X = .int m ∧ Y = .int n)) → cm iv L h0 d 124 [vr 307, vi 3, vi b] s (qi fun r9 s8 => F r9 s8) := fun hno => wp_stop hS (fun w hw => clash hno _ w (hw.up (by decide) (by decide))) (by decide)
    have i0 : ∀ {V : Term}, isV V = true → vkd V = 0 → ∃ z, V = .int z := fun {V} h1 h2 => by
      cases V with
      | int z => exact ⟨z, rfl⟩
      | sub d E => cases h2
      | _ => first | (cases h2) | (cases h1)
    refine ⟨by omega, fun q3 => stop3 (fun m n e => ?_), fun q3 => ⟨by omega, fun q4 => ?_, fun q4 => stop3 (fun m n e => ?_)⟩⟩
    · rw [e.1] at kx1; exact q3 kx1
    · obtain ⟨zx, rfl⟩ := i0 hx.1 (by rw [← kx1]; exact q3)
      obtain ⟨zy, rfl⟩ := i0 hy.1 (by rw [← ky1]; exact q4)
      have nx : s.2 47 x = zx.toInt := hx.2.2.2.1
      have ny : s.2 47 y = zy.toInt := hy.2.2.2.1
      have rx : inR zx.toInt := ⟨Int32.le_toInt zx, by have := Int32.toInt_lt zx; omega⟩
      rw [e9, nx, ny]
      have val : ∀ z : Int, inR z → (∀ r w, WP B C 1 0 s st (rok st (.int (Int32.ofInt z))) r w → F r w) → cm iv L h0 d 121 [vr 307, vi 0, vi z, vi (-9), vi (-9), vi (-9)] s (qi fun r15 s14 => F r15 s14) := fun z hz hG =>
        wp_new hX hS hk (fun q => by cases q) (fun w hw _ hlo h54 => by
          show cel w B (w.1 52) (s.1 52) 0 (Int32.ofInt z).toInt (-9) (-9) (-9) 0
          rw [i_to hz]
          exact vcel hw hlo (by rw [if_neg (by omega)])) (fun w hw => hG _ w hw)
      have tr : ∀ m : Nat, m ≤ 1 → (∀ r w, WP B C 1 0 s st (rok st (.arg m)) r w → F r w) → cm iv L h0 d 121 [vr 307, vi 1, vi (m : Int), vi (-9), vi (-9), vi (-9)] s (qi fun r15 s14 => F r15 s14) := fun m hm hG =>
        wp_new (V := .arg m) hX hS hk (fun q => by cases q) (fun w hw _ hlo h54 => vcel hw hlo (by rw [if_neg (by omega)])) (fun w hw => hG _ w hw)
      have hF' : ∀ r w, WP B C 1 0 s st (if σ.2 9 b = 7 then rok st (.arg (if zx.toInt < zy.toInt then 1 else 0)) else if σ.2 9 b = 6 ∧ zy.toInt = 0 then rst st 2 b else rok st (.int (Int32.ofInt (wh2 (σ.2 9 b) zx.toInt zy.toInt)))) r w → F r w := hF
      have w4 : σ.2 9 b = 4 → cm iv L h0 d 121 [vr 307, vi 0, vi (w32 (zx.toInt + zy.toInt)), vi (-9), vi (-9), vi (-9)] s (qi fun r15 s14 => F r15 s14) := fun e => val _ (w32_in _) (fun r w hw => hF' r w (by rw [if_neg (by omega), if_neg (by omega), e]; exact hw))
      have w5 : σ.2 9 b = 5 → cm iv L h0 d 121 [vr 307, vi 0, vi (w32 (zx.toInt * zy.toInt)), vi (-9), vi (-9), vi (-9)] s (qi fun r15 s14 => F r15 s14) := fun e => val _ (w32_in _) (fun r w hw => hF' r w (by rw [if_neg (by omega), if_neg (by omega), e]; exact hw))
      have w6 : σ.2 9 b = 6 → zy.toInt ≠ 0 → ((zy.toInt ≠ (-1) → (zy.toInt ≠ 0) ∧ (-2147483648 ≤ zx.toInt.tdiv zy.toInt ∧ zx.toInt.tdiv zy.toInt ≤ 2147483647) ∧ cm iv L h0 d 121 [vr 307, vi 0, vi (zx.toInt.tdiv zy.toInt), vi (-9), vi (-9), vi (-9)] s (qi fun r15 s14 => F r15 s14)) ∧ (zy.toInt = (-1) → cm iv L h0 d 121 [vr 307, vi 0, vi (w32 (-zx.toInt)), vi (-9), vi (-9), vi (-9)] s (qi fun r17 s16 => F r17 s16))) := fun e e0 => by
        have ew : wh2 6 zx.toInt zy.toInt = w32 (zx.toInt.tdiv zy.toInt) := rfl
        refine ⟨fun e1 => ⟨e0, tdiv_in rx e0 e1, val _ (tdiv_in rx e0 e1) (fun r w hw => hF' r w ?_)⟩, fun e1 => val _ (w32_in _) (fun r w hw => hF' r w ?_)⟩
        · rw [if_neg (by omega), if_neg (fun c => e0 c.2), e, ew, w32_id (tdiv_in rx e0 e1)]
          exact hw
        · rw [if_neg (by omega), if_neg (fun c => e0 c.2), e, ew, e1, show zx.toInt.tdiv (-1) = -zx.toInt from by rw [Int.tdiv_neg, Int.tdiv_one]]
          exact hw
      refine ⟨by omega, fun e7 => ⟨fun e6 => ⟨fun e4 => ⟨fun e5 => by exfalso; omega, fun e5 => w5 e5⟩, fun e4 => w4 e4⟩, fun e6 => ⟨fun e0 => ⟨fun e4 => ⟨fun e5 => w6 e6 e0, fun e5 => w5 e5⟩, fun e4 => w4 e4⟩, fun e0 => ?_⟩⟩, fun e7 => ⟨fun e => ?_, fun e => ?_⟩⟩
      · exact wp_stop hS (fun w hw => hF' _ w (by rw [if_neg e7, if_pos ⟨e6, e0⟩]; exact hw.up (by decide) (by decide))) (by decide)
      · exact tr 0 (by decide) (fun r w hw => hF' r w (by rw [if_pos e7, if_neg (by omega)]; exact hw))
      · exact tr 1 (by decide) (fun r w hw => hF' r w (by rw [if_pos e7, if_pos e]; exact hw))
    · rw [e.2] at ky1; exact q4 ky1
  · have : isW Y = true := Classical.byContradiction fun c => by rw [if_neg c] at q2; exact q2 rfl
    rw [this]; simp
end
end
section
/-! The reference works as evw says: an act is done, a node is worked. -/
section
variable {iv : List (Int × Int)} {L : Nat} {h0 : MH} {σ s : SM} {t : Term} {d n : Nat} {most B C st k : Int}
/-- a part is worked, whatever came before -/
theorem sub_ok {b e : Int} {E : Term} {F : Int → SM → Prop} {D : Nat} (hW : WCO iv L h0 σ t most B C n) (hb : b ∈ fl t) (hE : isE 26 E ∧ VN σ t E ∧ cov σ b E) (he : VR s B (s.1 52) C (s.1 54) E e) (hS : WS σ most B C n st k s) (hk : 0 ≤ k) (hD : 3 * n + 8 ≤ D) (hF : ∀ r w, WP B C 0 0 s st ((EV σ most n).1 b E st) r w → F r w) : cm iv L h0 D 126 [vr 307, vi b, vi e] s (qi F) :=
  wci_mono (hW b e st E s hb hE.1 hE.2.1 hE.2.2 he (hS.up hk)) hD hF
theorem actM_ok {b x y e : Int} {X Y E : Term} {F : Int → SM → Prop} (hX : WCX σ t most B C) (hW : WCO iv L h0 σ t most B C n) (hS : WS σ most B C n st 1 s) (hb : b ∈ fl t) (hso : 4 ≤ σ.2 9 b ∧ σ.2 9 b < 15 ∧ σ.2 9 b ≠ 8 ∧ σ.2 9 b ≠ 10) (hx : (isV X = true ∧ VN σ t X) ∧ VR s B (s.1 52) C (s.1 54) X x)
    (hy : (σ.2 9 b = 4 ∨ σ.2 9 b = 5 ∨ σ.2 9 b = 6 ∨ σ.2 9 b = 7 ∨ σ.2 9 b = 9 ∨ σ.2 9 b = 12) → (isV Y = true ∧ VN σ t Y) ∧ VR s B (s.1 52) C (s.1 54) Y y) (hE : σ.2 9 b = 11 → (isE 26 E ∧ VN σ t E ∧ cov σ b E) ∧ VR s B (s.1 52) C (s.1 54) E e) (hF : ∀ r w, WP B C 1 1 s st (actE (σ.2 9) (σ.2 10) (σ.2 14) (EV σ most n).1 b X Y E st) r w → F r w) : cm iv L h0 (3 * n + 9) 128 [vr 307, vi b, vi x, vi y, vi e] s (qi F) := by
  obtain ⟨m1, m2⟩ := hX.bc
  have hbl := hX.1.1.lt hb
  have hN := hX.1.2.1
  have h52 : B ≤ s.1 52 ∧ s.1 52 ≤ 1300 * σ.1 55 + 610 := by obtain ⟨a1, a2, a3, a4, a5⟩ := hS; omega
  have e9 : s.2 9 = σ.2 9 := hS.row (by decide)
  have e10 : s.2 10 = σ.2 10 := hS.row (by decide)
  have e14 : s.2 14 = σ.2 14 := hS.row (by decide)
  obtain ⟨kx1, kx2, kx3⟩ := VR_kind hx.1.1 hx.2
  unfold actE at hF
  -- what is left of it, or a clash
  have lft : ∀ (y' e' : Int) (Y' E' : Term), ((Y' = .null ∧ y' = -9) ∨ (Y' ≠ .null ∧ VR s B (s.1 52) C (s.1 54) Y' y')) → ((E' = .null ∧ e' = -9) ∨ (E' ≠ .null ∧ VR s B (s.1 52) C (s.1 54) E' e')) → (∀ r w, WP B C 1 1 s st (lftE b X Y' E' st) r w → F r w) → cm iv L h0 (3 * n + 8) 125 [vr 307, vi x] s (qi fun r6 s5 => ((r6 = 0 → cm iv L h0 (3 * n + 8) 124 [vr 307, vi 3, vi b] s5 (qi fun r8 s7 => F r8 s7)) ∧ (r6 ≠ 0 → cm iv L h0 (3 * n + 8) 121 [vr 307, vi 7, vi b, vi x, vi y', vi e'] s5 (qi fun r10 s9 => F r10 s9)))) := fun y' e' Y' E' hy' he' hG => by
    unfold lftE at hG
    refine isLeft_ok hx.1.1 hx.2 (by omega) ⟨fun q => ?_, fun q => ?_⟩
    · have : isW X = false := by
        cases h : isW X with
        | false => rfl
        | true => rw [h] at q; cases q
      rw [this, if_neg (by decide)] at hG
      exact wp_stop hS (fun w hw => hG _ w (hw.up (by decide) (by decide))) (by decide)
    · have : isW X = true := Classical.byContradiction fun c => by rw [if_neg c] at q; exact q rfl
      rw [if_pos this] at hG
      exact wp_lft hX hS (by decide) hbl.1 ⟨hx.1.1, hx.2⟩ hy' he' (fun w hw => hG _ w (hw.up (by decide) (by decide)))
  refine B128 ⟨by omega, fun q => ?_, fun q => ?_, fun q => ?_, fun q => ?_, fun q => ?_⟩
  · rw [e9] at q
    obtain ⟨y1, y2⟩ := hy (by omega)
    rw [if_pos q] at hF
    have h8 : 3 * n + 8 = (3 * n + 7) + 1 := by omega
    rw [h8]
    exact reck_ok hX hS (by decide) hb q ⟨hx.1.1, hx.2⟩ ⟨y1.1, y2⟩ (fun r w hw => hF r w (hw.up (by decide) (by decide)))
  · -- first, second
    rw [e9] at q ⊢
    rw [if_neg (by omega), if_neg (by omega), if_neg (by omega), if_neg (by omega)] at hF
    refine ⟨by omega, fun q3 => ?_, fun q3 => ?_⟩
    · refine lft (-9) (-9) .null .null (Or.inl ⟨rfl, rfl⟩) (Or.inl ⟨rfl, rfl⟩) (fun r w hw => hF r w ?_)
      unfold hlfE
      cases X with
      | add A A' => exact absurd kx1 q3
      | _ => exact hw
    · have hP : ∃ A A', X = .add A A' := by
        rw [q3] at kx1
        cases X with
        | add A A' => exact ⟨A, A', rfl⟩
        | sub d E => cases kx1
        | div d E => cases kx1
        | rem d E => cases kx1
        | _ => first | (cases kx1) | (cases hx.1.1)
      obtain ⟨A, A', rfl⟩ := hP
      obtain ⟨a, b', ⟨c0, c1, c2, c3, c4, c5, c6⟩, v1, v2⟩ := hx.2
      have wp : ∀ V v, VR s B (s.1 52) C (s.1 54) V v → WP B C 1 1 s st (rok st V) v s := fun V v hv =>
        ⟨FRM.rf, ⟨Int.le_refl _, by show s.1 52 ≤ s.1 52 + 2 * (st - st) + 1; omega⟩, ⟨Int.le_refl _, by show s.1 54 ≤ s.1 54 + 2 * (st - st) + 1; omega⟩, ⟨hS.2.1.1, rfl, hS.2.1.2.2.1, hS.2.1.2.2.2⟩, fun _ => hv⟩
      refine ⟨fun q4 => ?_, fun q4 => ?_⟩
      · rw [c4]
        refine hF b' s ?_
        show WP B C 1 1 s st (rok st (if σ.2 9 b = 13 then A else A')) b' s
        rw [if_neg q4]
        exact wp A' b' v2
      · rw [c3]
        refine hF a s ?_
        show WP B C 1 1 s st (rok st (if σ.2 9 b = 13 then A else A')) a s
        rw [if_pos q4]
        exact wp A a v1
  · -- use
    rw [e9] at q
    obtain ⟨y1, y2⟩ := hy (by omega)
    rw [if_neg (by omega), if_pos q] at hF
    refine ⟨by omega, fun q3 => ?_, fun q3 => ?_⟩
    · refine lft y (-9) Y .null (Or.inr ⟨isV_nn y1.1, y2⟩) (Or.inl ⟨rfl, rfl⟩) (fun r w hw => hF r w ?_)
      unfold useE
      cases X with
      | sub D E' => exact absurd kx1 q3
      | _ => exact hw
    · have hP : ∃ D E', X = .sub (.index D) E' := by
        rw [q3] at kx1
        cases X with
        | sub D E' =>
          cases D with
          | index D => exact ⟨D, E', rfl⟩
          | _ => cases hx.1.1
        | add d E => cases kx1
        | div d E => cases kx1
        | rem d E => cases kx1
        | _ => first | (cases kx1) | (cases hx.1.1)
      obtain ⟨D, E', rfl⟩ := hP
      obtain ⟨e', ⟨c0, c1, c2, c3, c4, c5, c6⟩, v1⟩ := hx.2
      obtain ⟨⟨d1, d2⟩, d3, d4, d5⟩ := hx.1.2
      have dl := hX.1.1.lt d1
      have dn := (hN D dl.1 dl.2.1).2.1 (by rw [d2]; decide)
      rw [c5, c2]
      have hF' : ∀ r w, WP B C 1 1 s st ((EV σ most n).1 (σ.2 14 (3 * D)) (upE E' (σ.2 10 D) Y) st) r w → F r w := hF
      have cb := cov_bind hX.1.1 hN (i := 0) d1 (by rw [d2]; decide) (Or.inl d2) d4 (isV_nn y1.1) d3
      rw [show (3 * (D : Int) + 0) = 3 * D by omega] at cb
      have hC := hS.2.2.2.2
      have hst := hS.2.2.1
      refine wp_bind hX hS (by decide) d4 dn v1 ⟨y1.1, y2⟩ (fun w w10 w14 hw => ?_)
      have w10 : w.2 10 = σ.2 10 := w10.trans e10
      have w14 : w.2 14 = σ.2 14 := w14.trans e14
      rw [w10, w14]
      have S2 : WS σ most B C n st 0 (ua w 53 (26 * s.1 54 + σ.2 10 D) y) := by
        exact hS.nx hw ⟨Int.le_refl _, hS.2.2.1.2⟩ ⟨rfl, rfl⟩ (by decide)
      refine ⟨by omega, by omega, by omega, by omega, by omega, by omega, sub_ok hW cb.1 ⟨upE_is 26 _ _ _ d4, VN_up _ _ _ d5 y1.1 y1.2, cb.2⟩ (hw.2.2.2.2 rfl) S2 (by decide) (Nat.le_refl _) (fun r v hv => hF' r v ((hw.tr hv).up (by decide) (by decide)))⟩
  · -- pick
    rw [e9] at q
    obtain ⟨⟨h1, h2, h3⟩, hv⟩ := hE q
    rw [if_neg (by omega), if_neg (by omega), if_pos q] at hF
    refine ⟨by omega, fun q3 => ?_, fun q3 => ?_⟩
    · refine lft (-9) e .null E (Or.inl ⟨rfl, rfl⟩) (Or.inr ⟨fun c => by rw [c] at h1; exact h1.elim, hv⟩) (fun r w hw => hF r w ?_)
      unfold pckE
      cases X with
      | arg m => exact absurd kx1 q3
      | _ => exact hw
    · have hP : ∃ m, X = .arg m := by
        rw [q3] at kx1
        cases X with
        | arg m => exact ⟨m, rfl⟩
        | sub d E => cases kx1
        | add d E => cases kx1
        | div d E => cases kx1
        | rem d E => cases kx1
        | _ => first | (cases kx1) | (cases hx.1.1)
      obtain ⟨m, rfl⟩ := hP
      obtain ⟨c0, c1, c2, c3, c4, c5, c6⟩ := hx.2
      rw [c2, e14]
      have hF' : ∀ r w, WP B C 1 1 s st ((EV σ most n).1 (σ.2 14 (3 * b + if m = 1 then 1 else 2)) E st) r w → F r w := hF
      have hp : pO (σ.2 9 b) = 3 := by rw [q]; rfl
      refine ⟨by omega, fun q4 => ⟨by omega, by omega, ?_⟩, fun q4 => ⟨by omega, by omega, ?_⟩⟩
      · have cp := cov_part hX.1.1 (i := 2) hb (by rw [hp]; decide) (by omega) h3
        rw [if_neg (by omega)] at hF'
        exact sub_ok hW cp.1 ⟨h1, h2, cp.2⟩ hv hS (by decide) (Nat.le_refl _) (fun r v hv => hF' r v (hv.up (by decide) (by decide)))
      · have cp := cov_part hX.1.1 (i := 1) hb (by rw [hp]; decide) (by omega) h3
        rw [if_pos (by omega)] at hF'
        exact sub_ok hW cp.1 ⟨h1, h2, cp.2⟩ hv hS (by decide) (Nat.le_refl _) (fun r v hv => hF' r v (hv.up (by decide) (by decide)))
  · -- a pair
    rw [e9] at q
    obtain ⟨y1, y2⟩ := hy (by omega)
    rw [if_neg (by omega), if_neg (by omega), if_neg (by omega), if_pos q] at hF
    obtain ⟨ky1, ky2, ky3⟩ := VR_kind y1.1 y2
    refine wp_new (V := .add X Y) hX hS (by decide) (fun _ _ _ => by omega) (fun w hw hkp hlo h54 => ?_) (fun w hw => hF _ w (hw.up (by decide) (by decide)))
    refine ⟨x, y, vcel hw hlo ?_, VR_k hx.2 hkp (by omega) (by omega), VR_k y2 hkp (by omega) (by omega)⟩
    rw [kx3, ky3]
    cases hX1 : hsL X <;> cases hY1 : hsL Y <;> simp [hX1, hY1] <;> omega
end
end
