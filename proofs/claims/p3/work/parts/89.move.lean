/-! move(); what rename() and move() leave. -/
def wth7 (s : SM) (y r : Int) : Bool := wth (s.2 12) 70 y r
/-- a NAME that would be bound otherwise where the hole h is -/
def mvb (s : SM) (h y : Int) : Bool := decide (s.2 9 y = 3) && ((decide (bds s y (s.2 10 y) = -9) || !(wth7 s (bds s y (s.2 10 y)) (s.1 16))) && decide (bds s h (s.2 10 y) ≠ bds s y (s.2 10 y)))
def mvU (s : SM) (h : Int) : SM := replU (replU (bornU s 0 (-9) (-9)) (s.1 16) (s.1 8)) h (s.1 16)
noncomputable def mvT (s : SM) (t : Term) (h : Int) : Term := rpT h (sq (s.1 16) t) (rpT (s.1 16) (.index (s.1 8).toNat) t)
def mvSt (s : SM) (h : Int) : Prop := s.2 9 h ≠ 0 ∨ h = s.1 16 ∨ wth7 s h (s.1 16) = true
def mvOk (s : SM) (t : Term) (h : Int) : Prop := h ∈ fl t ∧ ¬ mvSt s h ∧ s.1 8 ≠ 3000 ∧ (fl (sq (s.1 16) t)).any (mvb s h) = false
theorem wth_up {up : Int → Int} : ∀ (n m : Nat) (b r : Int), n ≤ m → wth up n b r = true → wth up m b r = true := by
  intro n
  induction n with
  | zero => intro m b r _ h; cases h
  | succ n ih =>
    intro m b r hm h
    obtain ⟨m, rfl⟩ : ∃ k, m = k + 1 := ⟨m - 1, by omega⟩
    unfold wth at h ⊢
    by_cases e : b = r
    · rw [if_pos e]
    · rw [if_neg e] at h ⊢
      by_cases e2 : up b = -9
      · rw [if_pos e2] at h; cases h
      · rw [if_neg e2] at h ⊢
        exact ih m _ r (by omega) h
theorem wth_tr {up : Int → Int} : ∀ (n m : Nat) (b a r : Int), wth up n b a = true → wth up m a r = true → wth up (n + m) b r = true := by
  intro n
  induction n with
  | zero => intro m b a r h; cases h
  | succ n ih =>
    intro m b a r h h2
    unfold wth at h
    by_cases e : b = a
    · subst e
      exact wth_up m _ _ _ (by omega) h2
    · rw [if_neg e] at h
      by_cases e2 : up b = -9
      · rw [if_pos e2] at h; cases h
      · rw [if_neg e2] at h
        have := ih m _ a r h h2
        rw [show n + 1 + m = (n + m) + 1 by omega]
        unfold wth
        by_cases e3 : b = r
        · rw [if_pos e3]
        · rw [if_neg e3, if_neg e2]
          exact this
theorem wth_sub {so pa up pl : Int → Int} {B : Int} : ∀ (u : Term), AT so pa up pl B u → ∀ y, y ∈ fl u → wth up (2 * dpt u) y (hd u) = true := by
  intro u
  induction u with
  | index n =>
    intro _ y hy
    rw [List.mem_singleton.mp hy]
    show wth up 2 (n : Int) (n : Int) = true
    unfold wth
    rw [if_pos rfl]
  | add t x ih ihx =>
    intro h y hy
    obtain ⟨h1, h2, h3, h4, h5, h6, h7⟩ := h
    have hdp : dpt (Term.add t x) = max (dpt t) (dpt x + 1) := rfl
    have hht : 0 ≤ hd t := ((AT_mem t h1 _ (hd_mem t h1)).1).1
    rcases List.mem_append.mp hy with hy | hy
    · exact wth_up _ _ _ _ (by omega) (ih h1 y hy)
    · have a := ihx h2 y hy
      have b : wth up 2 (hd x) (hd t) = true := by
        unfold wth
        by_cases e : hd x = hd t
        · rw [if_pos e]
        · rw [if_neg e, h6, if_neg (by omega)]
          unfold wth
          rw [if_pos rfl]
      exact wth_up _ _ _ _ (by omega) (wth_tr _ 2 _ _ _ a b)
  | _ => intro h; exact h.elim
theorem wth_70 {s : SM} {t : Term} (h : SHT s t) {y r : Int} (hy : y ∈ fl t) {n : Nat} (hw : wth (s.2 12) n y r = true) : wth7 s y r = true := by
  have hD := DP_tree h y hy
  have h1 := wth_up n (max n 61) y r (by omega) hw
  rw [wth_f 61 (max n 61) y r (by omega) hD] at h1
  exact wth_up 61 70 y r (by decide) h1
theorem sq_wth {s : SM} {t : Term} (h : SHT s t) {c y : Int} (hc : c ∈ fl t) (hy : y ∈ fl (sq c t)) : wth7 s y c = true := by
  obtain ⟨a1, a2, a3, a4, a5, a6, a7⟩ := sq_ok h.1 h.2.1 h.2.2.1 hc
  have := wth_sub _ a1 y hy
  rw [a3] at this
  exact wth_70 h (a4 y hy) this
noncomputable def mvA (s : SM) (t : Term) (h : Int) : Int := if h ∈ fl t then (if s.2 9 h ≠ 0 ∨ h = s.1 16 ∨ wth7 s h (s.1 16) = true then -4 else if s.1 8 = 3000 then -2 else if (fl (sq (s.1 16) t)).any (mvb s h) = true then -6 else s.1 8) else -1
section
variable {iv : List (Int × Int)} {L : Nat} {h0 : MH} {s : SM} {t : Term} {d : Nat}
theorem move_ok {g : Int} {F : Int → SM → Prop} {K : List Snap} (h : SHT s t) (hN : NB s) (hc : s.1 16 ∈ fl t) (hK : KL s K) (hD : 100 ≤ d) (H1 : ∀ w, ¬ mvOk s t g → SX [] [] s w → F (mvA s t g) w) (H2 : mvOk s t g → ∀ w, DONE s t K 0 (mvU s g) w → F (mvA s t g) w) : cm iv L h0 d 112 [vr 307, vi g] s (qi F) := by
  obtain ⟨d, rfl⟩ : ∃ k, d = k + 2 := ⟨d - 2, by omega⟩
  have hct := h.lt hc
  have h8 := h.2.2.2.2.1
  have hDP := fun x hx => DP_up 61 70 _ (by decide) (DP_tree h x hx)
  unfold mvA at H1 H2
  refine B112 (isThere_ok h (by omega) (fun w w1 w2 => ⟨fun e => ?_, fun e => ?_⟩))
  · have hg : g ∈ fl t := Classical.byContradiction fun q => by rw [if_neg q] at e; exact e rfl
    have hgl := h.lt hg
    have w9 : w.2 9 = s.2 9 := w1.2 9 (by decide)
    have w12 : w.2 12 = s.2 12 := w1.2 12 (by decide)
    have w16 : w.1 16 = s.1 16 := w1.1 16 (by decide)
    have st : (s.2 9 g ≠ 0 ∨ g = s.1 16 ∨ wth7 s g (s.1 16) = true) → F (-4) w := fun q => by
      have := H1 w (fun p => p.2.1 q) (SX_lay w1)
      rw [if_pos hg, if_pos q] at this
      exact this
    rw [w9, w16]
    refine ⟨by omega, fun e2 => st (Or.inl e2), fun e2 => ⟨fun e3 => st (Or.inr (Or.inl e3)), fun e3 => isWithin_ok (n := 70) (by omega) (by omega) (by rw [w12]; exact hDP g hg) ?_⟩⟩
    rw [w12]
    have bb : ∀ b' : Bool, ((if b' then (1 : Int) else 0) ≠ 0 → b' = true) ∧ ((if b' then (1 : Int) else 0) = 0 → b' = false) := fun b' => by cases b' <;> simp
    refine ⟨fun e4 => ?_, fun e4 => st (Or.inr (Or.inr ((bb _).1 e4)))⟩
    have e4 : wth7 s g (s.1 16) = false := (bb _).2 e4
    have nst : ¬ (s.2 9 g ≠ 0 ∨ g = s.1 16 ∨ wth7 s g (s.1 16) = true) := fun q => by
      rcases q with q | q | q
      · exact q e2
      · exact e3 q
      · rw [e4] at q; cases q
    rw [w1.1 8 (by decide), w16]
    refine ⟨fun e5 => ?_, fun e5 => ?_⟩
    · refine sizeOf_ok (h.x (SX_lay w1) (by decide) (by decide)) hc (by omega) (fun x x1 x2 => ?_)
      have x1 : eqx [18] [17] s x := w1.tr x1
      have sx := SX_lay x1
      have hTx : SHT x t := h.x sx (by decide) (by decide)
      have x9 : x.2 9 = s.2 9 := x1.2 9 (by decide)
      have x10 : x.2 10 = s.2 10 := x1.2 10 (by decide)
      have x12 : x.2 12 = s.2 12 := x1.2 12 (by decide)
      have x13 : x.2 13 = s.2 13 := x1.2 13 (by decide)
      have x14 : x.2 14 = s.2 14 := x1.2 14 (by decide)
      have x16 : x.1 16 = s.1 16 := x1.1 16 (by decide)
      obtain ⟨a1, a2, a3, a4, a5, a6, a7⟩ := sq_ok h.1 h.2.1 h.2.2.1 hc
      have hll := h.2.2.2.1
      -- the act
      have act : (fl (sq (s.1 16) t)).any (mvb s g) = false → cm iv L h0 (d + 1) 99 [vr 307] x (qv fun s1 => cm iv L h0 (d + 1) 74 [vr 307, vi 0, vi (-9), vi (-9)] s1 (qi fun r3 s2 => cm iv L h0 (d + 1) 77 [vr 307, vi (s1.1 16), vi r3] s2 (qv fun s4 => cm iv L h0 (d + 1) 77 [vr 307, vi g, vi (s1.1 16)] s4 (qv fun s5 => cm iv L h0 (d + 1) 100 [vr 307, vi 0] s5 (qv fun s6 => F r3 s6))))) := fun hany => by
        refine beginAct_ok hTx (by omega) (fun y y1 y2 y3 => ?_)
        have y1 : eqx [18, 30, 31] [17, 32, 33, 34] s y := (x1.up (fun y q => by simp at q ⊢; omega) (fun y q => by simp at q ⊢; omega)).tr y1
        have y3 : AH y (t, s) := by
          obtain ⟨b1, b2, b3⟩ := y3
          refine ⟨b1, b2.trans x16, fun k z hk => ?_⟩
          have := b3 k z hk
          rw [show ((t, x) : Snap).2.2 10 z = s.2 10 z from by show x.2 10 z = _; rw [x10], show ((t, x) : Snap).2.2 14 = s.2 14 from x14] at this
          exact this
        have y8 : y.1 8 = s.1 8 := y1.1 8 (by decide)
        have y16 : y.1 16 = s.1 16 := y1.1 16 (by decide)
        have hx := SX.eq (ey := []) (ef := []) y1 (by decide) (by decide)
        rw [y16]
        refine born_ok (by omega) ?_
        rw [y8]
        have g12 : (bornU y 0 (-9) (-9)).2 12 = s.2 12 := (bornU_e.2 12 (by decide)).trans (y1.2 12 (by decide))
        have g13 : (bornU y 0 (-9) (-9)).2 13 = s.2 13 := (bornU_e.2 13 (by decide)).trans (y1.2 13 (by decide))
        obtain ⟨q1, q2, q3, q4, q5⟩ := replU_in (s1 := bornU y 0 (-9) (-9)) (b := s.1 8) h hc (by rw [g12]) (by rw [g13])
        have z12 : (replU (bornU y 0 (-9) (-9)) (s.1 16) (s.1 8)).2 12 g = s.2 12 g ∧ (replU (bornU y 0 (-9) (-9)) (s.1 16) (s.1 8)).2 13 g = s.2 13 g := by
          have := q4 g (by omega)
          rw [this.1, this.2, g12, g13]
          exact ⟨rfl, rfl⟩
        refine replace_ok (by omega) (by rw [g12, g13]; exact up_in h hc) (by omega) (replace_ok (by omega) (by rw [z12.1, z12.2]; exact up_in h hg) (by omega) ?_)
        refine act_end (s' := mvU s g) h hN hc hK y1 y3 ?_ ?_ ?_ ?_ (fun u u1 u2 => ?_)
        · exact ((bornU_e.up (fun y q => by simp at q ⊢; omega) (fun y q => by simp at q ⊢; omega)).tr (replU_e.up (fun y q => by simp at q ⊢; omega) (fun y q => by simp at q ⊢; omega))).tr (replU_e.up (fun y q => by simp at q ⊢; omega) (fun y q => by simp at q ⊢; omega))
        · rw [replU_e.1 8 (by decide), replU_e.1 8 (by decide), bornU_8]; omega
        · intro z z0 z1
          rw [replU_e.2 9 (by decide), replU_e.2 9 (by decide), (bornU_o z (by rw [y8]; exact z1)).1.1, y1.2 9 (by decide)]
        · exact replU_x (replU_x (bornU_x hx (by decide)) (by omega) (by decide)) (by omega) (by decide)
        · have := H2 ⟨hg, nst, e5, hany⟩ u ⟨u1, u2⟩
          rw [if_pos hg, if_neg nst, if_neg e5, if_neg (by rw [hany]; decide)] at this
          exact this
      have cau : (fl (sq (s.1 16) t)).any (mvb s g) = true → F (-6) x := fun hany => by
        have := H1 x (fun p => by rw [p.2.2.2] at hany; cases hany) sx
        rw [if_pos hg, if_neg nst, if_neg e5, if_pos hany] at this
        exact this
      have key : ∀ (m p : List Int), fl (sq (s.1 16) t) = p ++ m → (fl (sq (s.1 16) t)).any (mvb s g) = m.any (mvb s g) → wm iv L h0 (d + 1 + 1) 112 66 [lr 307, li g, li (fl (sq (s.1 16) t)).length, li p.length] [] x (qi F) := by
        intro m
        induction m with
        | nil =>
          intro p e hb
          refine B112_66 ⟨fun _ => act (by rw [hb]; rfl), fun q => ?_⟩
          rw [e] at q
          simp at q
        | cons y m ih =>
          intro p e hb
          obtain ⟨c1, c2⟩ := LR_cons x2 e
          have hy : y ∈ fl t := a4 y (by rw [e]; simp)
          have hyl := h.lt hy
          have e' := e
          rw [app1] at e'
          have e1 : ((p ++ [y]).length : Int) = p.length + 1 := by simp
          have hpl : (p.length : Int) < (fl (sq (s.1 16) t)).length := by rw [e]; simp; omega
          have nx : mvb s g y = false → (-2147483648 ≤ (p.length : Int) + 1 ∧ (p.length : Int) + 1 ≤ 2147483647) ∧ wm iv L h0 (d + 1 + 1) 112 66 [lr 307, li g, li (fl (sq (s.1 16) t)).length, li (p.length + 1)] [] x (qi F) := fun hz => by
            have := ih (p ++ [y]) e' (by rw [hb]; simp [hz])
            rw [e1] at this
            exact ⟨by omega, this⟩
          have ca : mvb s g y = true → F (-6) x := fun hz => cau (by rw [hb]; simp [hz])
          have dy : DP (x.2 12) 70 y := by rw [x12]; exact hDP y hy
          have dg : DP (x.2 12) 70 g := by rw [x12]; exact hDP g hg
          refine B112_66 ⟨fun q => by omega, fun _ => ?_⟩
          rw [c1, x9, x10]
          refine ⟨by omega, by omega, fun q => nx (by unfold mvb; rw [decide_eq_false q]; rfl), fun q => binderOf_ok (n := 70) (by omega) dy ?_⟩
          rw [x9, x10, x12, x13, x16, c1]
          have e70 : bnd (s.2 9) (s.2 10) (s.2 12) (s.2 13) 70 y (s.2 10 y) = bds s y (s.2 10 y) := rfl
          rw [e70]
          have lastq : ∀ u, u = bds s y (s.2 10 y) → (u = -9 ∨ wth7 s u (s.1 16) = false) → cm iv L h0 (d + 1) 85 [vr 307, vi g, vi (s.2 10 y)] x (qi fun r14 s13 => ((r14 = u → (-2147483648 ≤ (p.length : Int) + 1 ∧ (p.length : Int) + 1 ≤ 2147483647) ∧ wm iv L h0 (d + 1 + 1) 112 66 [lr 307, li g, li (fl (sq (s.1 16) t)).length, li (p.length + 1)] [] s13 (qi F)) ∧ (r14 ≠ u → F (-6) s13))) := fun u hu hout => by
            refine binderOf_ok (n := 70) (by omega) dg ?_
            rw [x9, x10, x12, x13]
            have e71 : bnd (s.2 9) (s.2 10) (s.2 12) (s.2 13) 70 g (s.2 10 y) = bds s g (s.2 10 y) := rfl
            rw [e71]
            have eo : (decide (u = -9) || !(wth7 s u (s.1 16))) = true := by
              rcases hout with q | q
              · rw [decide_eq_true q]; rfl
              · rw [q]; simp
            refine ⟨fun q2 => nx ?_, fun q2 => ca ?_⟩
            · unfold mvb
              rw [← hu, decide_eq_false (p := bds s g (s.2 10 y) ≠ u) (fun c => c q2)]
              simp
            · unfold mvb
              rw [← hu, eo, decide_eq_true q, decide_eq_true q2]
              rfl
          refine ⟨fun e6 => ⟨by omega, lastq _ rfl (Or.inl e6)⟩, fun e6 => ?_⟩
          obtain ⟨b1, b2⟩ := (bnd_rng (so := s.2 9) (nu := s.2 10) (pl := s.2 13) 70 y (s.2 10 y) (hDP y hy)).resolve_left e6
          refine isWithin_ok (n := 70) b1 (by omega) (by rw [x12]; exact b2) ?_
          rw [x12, c1, x10]
          refine ⟨fun q2 => nx ?_, fun q2 => ⟨by omega, lastq _ rfl (Or.inr ((bb _).2 q2))⟩⟩
          have q2 : wth7 s (bds s y (s.2 10 y)) (s.1 16) = true := (bb _).1 q2
          unfold mvb
          rw [q2, decide_eq_false e6]
          simp
      exact key _ [] rfl rfl
    · have := H1 w (fun p => p.2.2.1 e5) (SX_lay w1)
      rw [if_pos hg, if_neg nst, if_pos e5] at this
      exact this
  · have hg : g ∉ fl t := fun q => by rw [if_pos q] at e; cases e
    have := H1 w (fun p => hg p.1) (SX_lay w1)
    rw [if_neg hg] at this
    exact this
theorem rnU_o {v : Int} {f : Nat} (hf : f ≠ 10) : (rnU s t v).2 f = s.2 f := by
  funext y
  show (if f = 10 ∧ (y = s.1 16 ∨ (y ∈ fl t ∧ isB s y = true)) then v else s.2 f y) = s.2 f y
  exact if_neg (fun q => hf q.1)
theorem ren_aft {v : Int} (h : AFT s t) (hg : renOk s t v) : AFT (rnU s t v) t := by
  obtain ⟨h1, h2, h3⟩ := h
  refine ⟨?_, fun x x0 x1 => ?_, h3⟩
  · have e : ∀ f, f ≠ 10 → (rnU s t v).2 f = s.2 f := fun f hf => rnU_o hf
    unfold SHT ATs at h1 ⊢
    rw [e 9 (by decide), e 12 (by decide), e 13 (by decide), e 14 (by decide)]
    exact h1
  · have hn := h2 x x0 x1
    have e9 : (rnU s t v).2 9 = s.2 9 := rnU_o (by decide)
    have e11 : (rnU s t v).2 11 = s.2 11 := rnU_o (by decide)
    rw [e9, e11]
    by_cases e : x = s.1 16 ∨ (x ∈ fl t ∧ isB s x = true)
    · rw [show (rnU s t v).2 10 x = v from if_pos ⟨rfl, e⟩]
      have h2' : s.2 9 x ≠ 2 := by
        rcases e with e | e
        · rw [e]; have := hg.2.1; omega
        · have := e.2
          unfold isB at this
          simp at this
          omega
      exact ⟨hn.1, fun _ => by have := hg.1; omega, fun q => absurd q h2', hn.2.2.2⟩
    · rw [show (rnU s t v).2 10 x = s.2 10 x from if_neg (fun q => e q.2)]
      exact hn
theorem sq_leaf (h : SHT s t) {c : Int} (hc : c ∈ fl t) (h9 : s.2 9 c = 0) : fl (sq c t) = [c] := by
  obtain ⟨a1, a2, a3, a4, a5, a6, a7⟩ := sq_ok h.1 h.2.1 h.2.2.1 hc
  unfold full at a2
  rw [a3, h9] at a2
  obtain ⟨b, eb⟩ := AT_0 a1 a2
  rw [eb] at a3 ⊢
  have a3 : (b : Int) = c := a3
  show [(b : Int)] = [c]
  rw [a3]
theorem mv_aft {g : Int} (h : AFT s t) (hg : mvOk s t g) : AFT (mvU s g) (mvT s t g) := by
  obtain ⟨h1, h2, h3⟩ := h
  obtain ⟨g1, g2, g3, g4⟩ := hg
  unfold mvSt at g2
  have hB := h1.2.2.2.2.1
  have hll := h1.2.2.2.1
  have h8 : s.1 8 < 3000 := by omega
  have e8 : (((s.1 8).toNat : Nat) : Int) = s.1 8 := by omega
  have hgl := h1.lt g1
  have hcl := h1.lt h3
  have g9 : s.2 9 g = 0 := Classical.byContradiction fun q => g2 (Or.inl q)
  -- the sheet behind the first half
  have tk : AFT (tkU s) (tkT s t) ∨ s.2 9 (s.1 16) = 0 := by
    by_cases q : s.2 9 (s.1 16) = 0
    · exact Or.inr q
    · exact Or.inl (take_aft ⟨h1, h2, h3⟩ ⟨q, g3⟩)
  obtain ⟨n1, n2, n3, n4, n5, n6, n7⟩ := new_in (so := 0) (v := -9) (k := -9) h1 h3 (by decide)
  have S1 : SHT (replU (bornU s 0 (-9) (-9)) (s.1 16) (s.1 8)) (rpT (s.1 16) (.index (s.1 8).toNat) t) := by
    have hl := len_rp h1 h3 (.index (s.1 8).toNat)
    have hp := sq_pos h1 h3
    have f1 : (fl (Term.index (s.1 8).toNat)).length = 1 := rfl
    refine SHT_rp h1 h3 ⟨by omega, by omega⟩ n1 ?_ ?_ (fun y hy hyt => ?_) (fun y hy _ => ?_) ?_ ?_ ?_ (by omega)
    · show (0 : Int) = pO ((replU (bornU s 0 (-9) (-9)) (s.1 16) (s.1 8)).2 9 (((s.1 8).toNat : Nat) : Int))
      rw [e8, n3.1]; rfl
    · simp [fl]
    · have := List.mem_singleton.mp hy
      have := h1.lt hyt
      omega
    · have hy2 := h1.lt hy
      obtain ⟨a1, a2, a3⟩ := n4 y hy2.2.1
      exact ⟨a1.1, a2.1, a2.2, fun i _ _ hi => a3 i hi⟩
    · show (replU _ _ _).2 12 (((s.1 8).toNat : Nat) : Int) = _ ∧ (replU _ _ _).2 13 (((s.1 8).toNat : Nat) : Int) = _
      rw [e8]; exact n5
    · intro q
      show (replU _ _ _).2 14 _ = (((s.1 8).toNat : Nat) : Int)
      rw [e8]; exact n6 q
    · show (replU _ _ _).1 15 = if _ then (((s.1 8).toNat : Nat) : Int) else _
      rw [e8]; exact n7
  obtain ⟨a1, a2, a3, a4, a5, a6, a7⟩ := sq_ok h1.1 h1.2.1 h1.2.2.1 h3
  obtain ⟨a, z, e1, e2, e3⟩ := rpT_fl h1.1 h1.2.2.1 h3
  have e2' := e2 (.index (s.1 8).toNat)
  have gn : g ∉ fl (sq (s.1 16) t) := fun q => g2 (Or.inr (Or.inr (sq_wth h1 h3 q)))
  have f1 : fl (Term.index (s.1 8).toNat) = [s.1 8] := by show [(((s.1 8).toNat : Nat) : Int)] = _; rw [e8]
  have gin : g ∈ fl (rpT (s.1 16) (.index (s.1 8).toNat) t) := by
    rw [e2']
    rw [e1] at g1
    simp at g1 ⊢
    rcases g1 with q | q | q
    · exact Or.inl q
    · exact absurd q gn
    · exact Or.inr (Or.inr q)
  have dis : ∀ y, y ∈ fl (sq (s.1 16) t) → y ∉ fl (rpT (s.1 16) (.index (s.1 8).toNat) t) := fun y hy q => by
    rw [e2', f1] at q
    have hnd := h1.2.2.1
    rw [e1] at hnd
    obtain ⟨m1, m2, m3⟩ := List.nodup_append.mp hnd
    obtain ⟨m4, m5, m6⟩ := List.nodup_append.mp m2
    rcases List.mem_append.mp q with q | q
    · exact m3 y q y (List.mem_append_left _ hy) rfl
    · rcases List.mem_append.mp q with q | q
      · have := List.mem_singleton.mp q
        have := h1.lt (a4 y hy)
        omega
      · exact m6 y hy y q rfl
  have cm0 : s.1 16 ∈ fl (sq (s.1 16) t) := by have := hd_mem _ a1; rw [a3] at this; exact this
  have cn := dis _ cm0
  have gs := n4 g hgl.2.1
  have S9 : (replU (bornU s 0 (-9) (-9)) (s.1 16) (s.1 8)).2 9 g = 0 := gs.1.1.trans g9
  have lf := sq_leaf S1 gin S9
  have hl1 := len_rp h1 h3 (.index (s.1 8).toNat)
  have hl2 := len_rp S1 gin (sq (s.1 16) t)
  rw [lf] at hl2
  rw [f1] at hl1
  simp only [List.length_cons, List.length_nil] at hl1 hl2
  obtain ⟨r1, r2, r3, r4, r5⟩ := replU_in (b := s.1 16) S1 gin rfl rfl
  have E9 : (mvU s g).2 9 = (replU (bornU s 0 (-9) (-9)) (s.1 16) (s.1 8)).2 9 := replU_e.2 9 (by decide)
  have E10 : (mvU s g).2 10 = (replU (bornU s 0 (-9) (-9)) (s.1 16) (s.1 8)).2 10 := replU_e.2 10 (by decide)
  have E11 : (mvU s g).2 11 = (replU (bornU s 0 (-9) (-9)) (s.1 16) (s.1 8)).2 11 := replU_e.2 11 (by decide)
  have E8 : (mvU s g).1 8 = s.1 8 + 1 := (replU_e.1 8 (by decide)).trans n2
  have hup1 := up_in S1 gin
  have hupn : (replU (bornU s 0 (-9) (-9)) (s.1 16) (s.1 8)).2 12 g ∉ fl (sq (s.1 16) t) := fun q => by
    have hq := a4 _ q
    have hql := h1.lt hq
    by_cases e : g = hd (rpT (s.1 16) (.index (s.1 8).toNat) t)
    · have := S1.2.2.2.2.2.2.1
      rw [← e] at this
      omega
    · have := ((AT_mem _ S1.1 g gin).2.2.2 e).1
      exact dis _ q this
  refine ⟨SHT_rp (w := mvU s g) S1 gin ⟨by rw [E8, n2]; exact Int.le_refl _, by rw [E8]; omega⟩ ?_ ?_ a5 (fun y hy hyt => absurd hyt (dis y hy)) (fun y hy hyn => ?_) ?_ ?_ ?_ (by omega), NB_new h2 ?_ (fun y y0 y1 => ?_) (fun y y0 y1 => ?_), ?_⟩
  · refine AT_cg (by rw [E8]; omega) _ a1 a5 (fun x hx => ?_) (fun x hx hne => ?_)
    · have hxl := h1.lt (a4 x hx)
      obtain ⟨b1, b2, b3⟩ := n4 x hxl.2.1
      refine ⟨by rw [E9]; exact b1.1, fun j j0 j1 _ => ?_⟩
      have hpo := pO_in (s.2 9 x)
      have k1 : 3 * x + j ≠ 3 * s.2 12 (s.1 16) + s.2 13 (s.1 16) := fun q => by
        rcases up_in h1 h3 with e | e
        · have e13 : s.1 16 = hd t := Classical.byContradiction fun q => by
            have := h1.lt ((AT_mem t h1.1 _ h3).2.2.2 q).1
            omega
          have := h1.2.2.2.2.2.2.2
          rw [← e13] at this
          omega
        · have : x = s.2 12 (s.1 16) := by omega
          exact sq_up h1 h3 (by rw [← this]; exact hx)
      have k2 : 3 * x + j ≠ 3 * (replU (bornU s 0 (-9) (-9)) (s.1 16) (s.1 8)).2 12 g + (replU (bornU s 0 (-9) (-9)) (s.1 16) (s.1 8)).2 13 g := fun q => by
        rcases hup1 with e | e
        · have e13 : g = hd (rpT (s.1 16) (.index (s.1 8).toNat) t) := Classical.byContradiction fun q => by
            have := S1.lt ((AT_mem _ S1.1 _ gin).2.2.2 q).1
            omega
          have := S1.2.2.2.2.2.2.2
          rw [← e13] at this
          omega
        · have : x = (replU (bornU s 0 (-9) (-9)) (s.1 16) (s.1 8)).2 12 g := by omega
          exact hupn (by rw [← this]; exact hx)
      exact (r5 _ k2).trans (b3 j k1)
    · rw [a3] at hne
      have hxl := h1.lt (a4 x hx)
      obtain ⟨b1, b2, b3⟩ := n4 x hxl.2.1
      have := r4 x hne
      exact ⟨this.1.trans b2.1, this.2.trans b2.2⟩
  · unfold full at a2 ⊢
    rw [a2, a3, E9, (n4 _ hcl.2.1).1.1]
  · have hne : y ≠ s.1 16 := fun q => cn (q ▸ hy)
    have := r4 y hne
    exact ⟨by rw [E9], this.1, this.2, fun i i0 i3 hi => r5 _ hi⟩
  · rw [a3]; exact r1
  · intro q
    rw [a3]; exact r2 q
  · rw [a3]; exact r3
  · exact (replU_e.1 2 (by decide)).trans ((replU_e.1 2 (by decide)).trans (bornU_e.1 2 (by decide)))
  · rw [E9, E10, E11]; exact (n4 y y1).1
  · rw [E8] at y1
    obtain rfl : y = s.1 8 := by omega
    exact nodOk_hole (by rw [E9]; exact n3.1)
  · have e16 : (mvU s g).1 16 = s.1 16 := (replU_e.1 16 (by decide)).trans ((replU_e.1 16 (by decide)).trans (bornU_e.1 16 (by decide)))
    rw [e16]
    exact hl2.2 _ cm0
end
