/-! rename(), move(). -/
/-- a NAME that the node at the cursor binds -/
def isB (s : SM) (y : Int) : Bool := decide (s.2 9 y = 3) && decide (bds s y (s.2 10 y) = s.1 16)
def nuR (s : SM) (v : Int) : Int → Int := fun y => if y = s.1 16 then v else s.2 10 y
def bdR (s : SM) (v b x : Int) : Int := bnd (s.2 9) (nuR s v) (s.2 12) (s.2 13) 70 b x
/-- a NAME that would be bound otherwise -/
def rnb (s : SM) (v y : Int) : Bool := decide (s.2 9 y = 3) && (decide (bdR s v y (if isB s y then v else s.2 10 y) = s.1 16) != isB s y)
def rnU (s : SM) (t : Term) (v : Int) : SM := (s.1, fun f y => if f = 10 ∧ (y = s.1 16 ∨ (y ∈ fl t ∧ isB s y = true)) then v else s.2 f y)
def renA (s : SM) (t : Term) (v : Int) : Int := if 0 ≤ v ∧ v ≤ 25 then (if s.2 9 (s.1 16) = 8 ∨ s.2 9 (s.1 16) = 10 then (if (fl t).any (rnb s v) = true then -6 else cntp (isB s) (fl t)) else -4) else -1
def renOk (s : SM) (t : Term) (v : Int) : Prop := (0 ≤ v ∧ v ≤ 25) ∧ (s.2 9 (s.1 16) = 8 ∨ s.2 9 (s.1 16) = 10) ∧ (fl t).any (rnb s v) = false
theorem bnd_nu {so nu up pl : Int → Int} : ∀ (n : Nat) (b x : Int), bnd so nu up pl n b x = -9 ∨ nu (bnd so nu up pl n b x) = x := by
  intro n
  induction n with
  | zero => intro b x; exact Or.inl rfl
  | succ n ih =>
    intro b x
    unfold bnd
    by_cases e : up b = -9
    · rw [if_pos e]; exact Or.inl rfl
    · rw [if_neg e]
      by_cases e2 : (so (up b) = 8 ∨ (so (up b) = 10 ∧ pl b = 1)) ∧ nu (up b) = x
      · rw [if_pos e2]; exact Or.inr e2.2
      · rw [if_neg e2]; exact ih (up b) x
theorem bnd_rng {so nu up pl : Int → Int} : ∀ (n : Nat) (b x : Int), DP up n b → bnd so nu up pl n b x = -9 ∨ ((0 ≤ bnd so nu up pl n b x ∧ bnd so nu up pl n b x < 3004) ∧ DP up n (bnd so nu up pl n b x)) := by
  intro n
  induction n with
  | zero => intro b x h; exact h.elim
  | succ n ih =>
    intro b x h
    unfold bnd
    by_cases e : up b = -9
    · rw [if_pos e]; exact Or.inl rfl
    · obtain ⟨h1, h2⟩ := h.resolve_left e
      rw [if_neg e]
      by_cases e2 : (so (up b) = 8 ∨ (so (up b) = 10 ∧ pl b = 1)) ∧ nu (up b) = x
      · rw [if_pos e2]; exact Or.inr ⟨h1, DP_up n (n + 1) _ (by omega) h2⟩
      · rw [if_neg e2]
        exact (ih (up b) x h2).imp id (fun q => ⟨q.1, DP_up n (n + 1) _ (by omega) q.2⟩)
theorem cntp_app (P : Int → Bool) : ∀ (l m : List Int), cntp P (l ++ m) = cntp P l + cntp P m := by
  intro l
  induction l with
  | nil => intro m; show cntp P m = 0 + cntp P m; omega
  | cons x r ih =>
    intro m
    show (if P x then 1 else 0) + cntp P (r ++ m) = (if P x then 1 else 0) + cntp P r + cntp P m
    rw [ih]; omega
section
variable {iv : List (Int × Int)} {L : Nat} {h0 : MH} {s : SM} {t : Term} {d : Nat}
theorem rename_ok {v : Int} {F : Int → SM → Prop} {K : List Snap} (h : SHT s t) (hN : NB s) (hc : s.1 16 ∈ fl t) (hK : KL s K) (hD : 100 ≤ d) (H1 : ∀ w, ¬ renOk s t v → SX [] [] s w → F (renA s t v) w) (H2 : renOk s t v → ∀ w, DONE s t K 0 (rnU s t v) w → F (renA s t v) w) : cm iv L h0 d 111 [vr 307, vi v] s (qi F) := by
  obtain ⟨d, rfl⟩ : ∃ k, d = k + 2 := ⟨d - 2, by omega⟩
  have hct := h.lt hc
  have hDP := fun x hx => DP_up 61 70 _ (by decide) (DP_tree h x hx)
  unfold renA at H1 H2
  have main : 0 ≤ v ∧ v ≤ 25 → (s.2 9 (s.1 16) = 8 ∨ s.2 9 (s.1 16) = 10) → cm iv L h0 (d + 1) 99 [vr 307] s (qv fun s2 => (0 ≤ s2.1 16 ∧ s2.1 16 < 3004) ∧ wm iv L h0 (d + 1 + 1) 111 62 [lr 307, li v, li (s2.2 10 (s2.1 16)), li 0, li 0] [] s2 (qi F)) := fun hv hso => by
    refine beginAct_ok h (by omega) (fun w w1 w2 w3 => ?_)
    have w16 : w.1 16 = s.1 16 := w1.1 16 (by decide)
    have w9 : w.2 9 = s.2 9 := w1.2 9 (by decide)
    have w10 : w.2 10 = s.2 10 := w1.2 10 (by decide)
    have w12 : w.2 12 = s.2 12 := w1.2 12 (by decide)
    have w13 : w.2 13 = s.2 13 := w1.2 13 (by decide)
    rw [w16, w10]
    refine ⟨by omega, ?_⟩
    -- the last loop: names are written
    have lst : (fl t).any (rnb s v) = false → ∀ (m p : List Int) (x : SM), fl t = p ++ m → eqx [] [10, 36] w x → (∀ (k : Nat) (y : Int), (fl t)[k]? = some y → x.2 36 k = if isB s y then 1 else 0) → (∀ y, x.2 10 y = if y = s.1 16 ∨ (y ∈ p ∧ isB s y = true) then v else s.2 10 y) → wm iv L h0 (d + 1 + 1) 111 317 [lr 307, li v, ln, li (cntp (isB s) (fl t)), ln, li p.length] [] x (qi F) := by
      intro hany m
      induction m with
      | nil =>
        intro p x e x1 x2 x3
        have ep : p = fl t := by rw [e]; simp
        have hl := LR_nil w2 e
        refine B111_317 ⟨fun _ => ?_, fun q => by rw [x1.1 18 (by decide)] at q; omega⟩
        refine act_end (s' := rnU s t v) h hN hc hK w1 w3 (x1.up (fun _ q => by cases q) (fun y q => by simp at q ⊢; omega)) ?_ ?_ ⟨fun y a1 a2 => ?_, fun f a1 a2 i a3 => ?_⟩ (fun u u1 u2 => ?_)
        · rw [x1.1 8 (by decide), w1.1 8 (by decide)]; exact Int.le_refl _
        · intro y _ _
          rw [x1.2 9 (by decide), w9]
        · rw [x1.1 y (by simp)]
          exact w1.1 y (by simp [scN] at a1; simp; omega)
        · show x.2 f i = if f = 10 ∧ (i = s.1 16 ∨ (i ∈ fl t ∧ isB s i = true)) then v else s.2 f i
          by_cases e1 : f = 10
          · subst e1
            rw [x3, ep]
            by_cases e2 : i = s.1 16 ∨ (i ∈ fl t ∧ isB s i = true)
            · rw [if_pos e2, if_pos ⟨rfl, e2⟩]
            · rw [if_neg e2, if_neg (fun q => e2 q.2)]
          · rw [if_neg (fun q => e1 q.1), x1.2 f (by simp [scR] at a1; simp; omega), w1.2 f (by simp [scR] at a1; simp; omega)]
        · have := H2 ⟨hv, hso, hany⟩ u ⟨u1, u2⟩
          rw [if_pos hv, if_pos hso, if_neg (by rw [hany]; decide)] at this
          exact this
      | cons y m ih =>
        intro p x e x1 x2 x3
        obtain ⟨c1, c2⟩ := LR_cons w2 e
        obtain ⟨c3, hy⟩ := h.fl80 e
        have hyl := h.lt hy
        have e' := e
        rw [app1] at e'
        have e1 : ((p ++ [y]).length : Int) = p.length + 1 := by simp
        have e36 := x2 p.length y (by rw [e]; simp)
        have e18 : x.1 18 = w.1 18 := x1.1 18 (by decide)
        have e17 : x.2 17 = w.2 17 := x1.2 17 (by decide)
        have nx : ∀ z, (∀ y', (ua x 10 y z).2 10 y' = if y' = s.1 16 ∨ (y' ∈ p ++ [y] ∧ isB s y' = true) then v else s.2 10 y') → wm iv L h0 (d + 1 + 1) 111 317 [lr 307, li v, ln, li (cntp (isB s) (fl t)), ln, li (p.length + 1)] [] (ua x 10 y z) (qi F) := fun z hz => by
          have := ih (p ++ [y]) (ua x 10 y z) e' (eqx_ua x1 (by decide)) (fun k y' hk => x2 k y' hk) hz
          rw [e1] at this
          exact this
        refine B111_317 ⟨fun q => by omega, fun _ => ⟨by omega, fun q => ?_, fun q => ?_⟩⟩
        · rw [e17, c1]
          rw [e36] at q
          refine ⟨by omega, by omega, nx _ (fun y' => ?_)⟩
          have hb : isB s y = false := by cases hb : isB s y with
            | false => rfl
            | true => rw [hb] at q; exact absurd q (by decide)
          rw [ua_2]
          by_cases ey : y' = y
          · subst ey
            rw [if_pos ⟨rfl, rfl⟩, x3, hb]
            by_cases e4 : y' = s.1 16
            · rw [if_pos (Or.inl e4), if_pos (Or.inl e4)]
            · rw [if_neg (by simp [e4]), if_neg (by simp [e4])]
          · rw [if_neg (by omega), x3]
            by_cases e4 : y' = s.1 16 ∨ (y' ∈ p ∧ isB s y' = true)
            · rw [if_pos e4, if_pos (e4.imp id (fun q => ⟨List.mem_append_left _ q.1, q.2⟩))]
            · rw [if_neg e4, if_neg (fun q => e4 (q.imp id (fun q => ⟨by simpa [ey] using q.1, q.2⟩)))]
        · rw [e17, c1]
          rw [e36] at q
          refine ⟨by omega, by omega, nx _ (fun y' => ?_)⟩
          have hb : isB s y = true := by cases hb : isB s y with
            | true => rfl
            | false => rw [hb] at q; exact absurd rfl q
          rw [ua_2]
          by_cases ey : y' = y
          · subst ey
            rw [if_pos ⟨rfl, rfl⟩, if_pos (Or.inr ⟨by simp, hb⟩)]
          · rw [if_neg (by omega), x3]
            by_cases e4 : y' = s.1 16 ∨ (y' ∈ p ∧ isB s y' = true)
            · rw [if_pos e4, if_pos (e4.imp id (fun q => ⟨List.mem_append_left _ q.1, q.2⟩))]
            · rw [if_neg e4, if_neg (fun q => e4 (q.imp id (fun q => ⟨by simpa [ey] using q.1, q.2⟩)))]
    -- the second one: whether a name is caught
    have snd : ∀ (x : SM), eqx [] [10, 36] w x → (∀ (k : Nat) (y : Int), (fl t)[k]? = some y → x.2 36 k = if isB s y then 1 else 0) → x.2 10 = nuR s v → ∀ (m p : List Int) (b : Bool), fl t = p ++ m → (fl t).any (rnb s v) = (b || m.any (rnb s v)) → wm iv L h0 (d + 1 + 1) 111 174 [lr 307, li v, li (s.2 10 (s.1 16)), li (cntp (isB s) (fl t)), li (if b then 1 else 0), li p.length] [] x (qi F) := by
      intro x x1 x2 x3 m
      have e18 : x.1 18 = w.1 18 := x1.1 18 (by decide)
      have e17 : x.2 17 = w.2 17 := x1.2 17 (by decide)
      have e16 : x.1 16 = s.1 16 := (x1.1 16 (by decide)).trans w16
      have e9 : x.2 9 = s.2 9 := (x1.2 9 (by decide)).trans w9
      have e12 : x.2 12 = s.2 12 := (x1.2 12 (by decide)).trans w12
      have e13 : x.2 13 = s.2 13 := (x1.2 13 (by decide)).trans w13
      induction m with
      | nil =>
        intro p b e hb
        have hl := LR_nil w2 e
        simp at hb
        refine B111_174 ⟨fun _ => ⟨fun q => ?_, fun q => ?_⟩, fun q => by rw [e18] at q; omega⟩
        · have hb0 : b = false := by cases b with
            | false => rfl
            | true => exact absurd q (by decide)
          rw [hb0] at hb
          refine lst (by simpa using hb) (fl t) [] x rfl x1 x2 (fun y => ?_)
          rw [x3]
          show (if y = s.1 16 then v else s.2 10 y) = _
          by_cases e4 : y = s.1 16
          · rw [if_pos e4, if_pos (Or.inl e4)]
          · rw [if_neg e4, if_neg (by simp [e4])]
        · have hb1 : b = true := by cases b with
            | true => rfl
            | false => exact absurd rfl q
          rw [hb1] at hb
          have hany : (fl t).any (rnb s v) = true := by simpa using hb
          rw [e16]
          refine ⟨by omega, ?_⟩
          have hx : SX [] [] s (ua x 10 (s.1 16) (s.2 10 (s.1 16))) := ⟨fun y a1 a2 => ?_, fun f a1 a2 i a3 => ?_⟩
          · have := H1 _ (fun q => by rw [q.2.2] at hany; cases hany) hx
            rw [if_pos hv, if_pos hso, if_pos hany] at this
            exact this
          · show x.1 y = s.1 y
            rw [x1.1 y (by simp)]
            exact w1.1 y (by simp [scN] at a1; simp; omega)
          · rw [ua_2]
            by_cases e1 : f = 10
            · subst e1
              by_cases e2 : i = s.1 16
              · rw [if_pos ⟨rfl, e2⟩, e2]
              · rw [if_neg (by omega), x3]
                exact if_neg e2
            · rw [if_neg (by omega), x1.2 f (by simp [scR] at a1; simp; omega), w1.2 f (by simp [scR] at a1; simp; omega)]
      | cons y m ih =>
        intro p b e hb
        obtain ⟨c1, c2⟩ := LR_cons w2 e
        obtain ⟨c3, hy⟩ := h.fl80 e
        have hyl := h.lt hy
        have e' := e
        rw [app1] at e'
        have e1 : ((p ++ [y]).length : Int) = p.length + 1 := by simp
        have e36 := x2 p.length y (by rw [e]; simp)
        have hb2 : (fl t).any (rnb s v) = ((b || rnb s v y) || m.any (rnb s v)) := by rw [hb]; simp [Bool.or_assoc]
        have nx : ∀ z : Int, z = (if (b || rnb s v y) then 1 else 0) → wm iv L h0 (d + 1 + 1) 111 174 [lr 307, li v, li (s.2 10 (s.1 16)), li (cntp (isB s) (fl t)), li z, li (p.length + 1)] [] x (qi F) := fun z hz => by
          have := ih (p ++ [y]) (b || rnb s v y) e' hb2
          rw [e1] at this
          rw [hz]
          exact this
        have one : b = true → (1 : Int) = if (b || rnb s v y) then 1 else 0 := fun q => by rw [q]; rfl
        have bb : ∀ b' : Bool, ((if b' then (1 : Int) else 0) ≠ 0 → b' = true) ∧ ((if b' then (1 : Int) else 0) = 0 → b' = false) := fun b' => by cases b' <;> simp
        -- what comes of a name's binder
        have nam : s.2 9 y = 3 → ∀ r : Int, r = bdR s v y (if isB s y then v else s.2 10 y) → ((r ≠ s.1 16 → (((if b then (1 : Int) else 0) ≠ 0 → (-2147483648 ≤ (p.length : Int) + 1 ∧ (p.length : Int) + 1 ≤ 2147483647) ∧ wm iv L h0 (d + 1 + 1) 111 174 [lr 307, li v, li (s.2 10 (s.1 16)), li (cntp (isB s) (fl t)), li 1, li (p.length + 1)] [] x (qi F)) ∧ ((if b then (1 : Int) else 0) = 0 → (0 ≤ y ∧ y < 3004) ∧ ((s.2 9 y ≠ 3 → (-2147483648 ≤ (p.length : Int) + 1 ∧ (p.length : Int) + 1 ≤ 2147483647) ∧ wm iv L h0 (d + 1 + 1) 111 174 [lr 307, li v, li (s.2 10 (s.1 16)), li (cntp (isB s) (fl t)), li 0, li (p.length + 1)] [] x (qi F)) ∧ (s.2 9 y = 3 → ((0 = x.2 36 p.length → (-2147483648 ≤ (p.length : Int) + 1 ∧ (p.length : Int) + 1 ≤ 2147483647) ∧ wm iv L h0 (d + 1 + 1) 111 174 [lr 307, li v, li (s.2 10 (s.1 16)), li (cntp (isB s) (fl t)), li 0, li (p.length + 1)] [] x (qi F)) ∧ (0 ≠ x.2 36 p.length → (-2147483648 ≤ (p.length : Int) + 1 ∧ (p.length : Int) + 1 ≤ 2147483647) ∧ wm iv L h0 (d + 1 + 1) 111 174 [lr 307, li v, li (s.2 10 (s.1 16)), li (cntp (isB s) (fl t)), li 1, li (p.length + 1)] [] x (qi F)))))))) ∧
            (r = s.1 16 → (((if b then (1 : Int) else 0) ≠ 0 → (-2147483648 ≤ (p.length : Int) + 1 ∧ (p.length : Int) + 1 ≤ 2147483647) ∧ wm iv L h0 (d + 1 + 1) 111 174 [lr 307, li v, li (s.2 10 (s.1 16)), li (cntp (isB s) (fl t)), li 1, li (p.length + 1)] [] x (qi F)) ∧ ((if b then (1 : Int) else 0) = 0 → (0 ≤ y ∧ y < 3004) ∧ ((s.2 9 y ≠ 3 → (-2147483648 ≤ (p.length : Int) + 1 ∧ (p.length : Int) + 1 ≤ 2147483647) ∧ wm iv L h0 (d + 1 + 1) 111 174 [lr 307, li v, li (s.2 10 (s.1 16)), li (cntp (isB s) (fl t)), li 0, li (p.length + 1)] [] x (qi F)) ∧ (s.2 9 y = 3 → ((1 = x.2 36 p.length → (-2147483648 ≤ (p.length : Int) + 1 ∧ (p.length : Int) + 1 ≤ 2147483647) ∧ wm iv L h0 (d + 1 + 1) 111 174 [lr 307, li v, li (s.2 10 (s.1 16)), li (cntp (isB s) (fl t)), li 0, li (p.length + 1)] [] x (qi F)) ∧ (1 ≠ x.2 36 p.length → (-2147483648 ≤ (p.length : Int) + 1 ∧ (p.length : Int) + 1 ≤ 2147483647) ∧ wm iv L h0 (d + 1 + 1) 111 174 [lr 307, li v, li (s.2 10 (s.1 16)), li (cntp (isB s) (fl t)), li 1, li (p.length + 1)] [] x (qi F))))))))) := fun h3 r hr => by
          have er : rnb s v y = (decide (r = s.1 16) != isB s y) := by unfold rnb; rw [← hr, h3]; simp
          rw [e36]
          refine ⟨fun q => ⟨fun q2 => ⟨by omega, nx 1 (one ((bb b).1 q2))⟩, fun q2 => ⟨by omega, fun q3 => absurd h3 q3, fun _ => ⟨fun q3 => ⟨by omega, nx 0 ?_⟩, fun q3 => ⟨by omega, nx 1 ?_⟩⟩⟩⟩, fun q => ⟨fun q2 => ⟨by omega, nx 1 (one ((bb b).1 q2))⟩, fun q2 => ⟨by omega, fun q3 => absurd h3 q3, fun _ => ⟨fun q3 => ⟨by omega, nx 0 ?_⟩, fun q3 => ⟨by omega, nx 1 ?_⟩⟩⟩⟩⟩
          · rw [er, (bb b).2 q2, (bb (isB s y)).2 q3.symm, decide_eq_false q]; rfl
          · rw [er, (bb b).2 q2, (bb (isB s y)).1 (Ne.symm q3), decide_eq_false q]; rfl
          · rw [er, (bb b).2 q2, (bb (isB s y)).1 (by omega), decide_eq_true q]; rfl
          · have hb3 : isB s y = false := by cases hb3 : isB s y with
              | false => rfl
              | true => rw [hb3] at q3; exact absurd rfl q3
            rw [er, (bb b).2 q2, hb3, decide_eq_true q]; rfl
        refine B111_174 ⟨fun q => by omega, fun _ => ?_⟩
        rw [e17, c1, e9]
        refine ⟨by omega, by omega, fun q => ⟨fun q2 => ⟨by omega, nx 1 (one ((bb b).1 q2))⟩, fun q2 => ⟨fun _ => ⟨by omega, nx 0 ?_⟩, fun q3 => absurd q3 q⟩⟩, fun q => ⟨fun q2 => ?_, fun q2 => ?_⟩⟩
        · have : rnb s v y = false := by unfold rnb; rw [decide_eq_false q]; rfl
          rw [(bb b).2 q2, this]; rfl
        · rw [e36] at q2
          have hb3 := (bb (isB s y)).2 q2
          refine binderOf_ok (n := 70) (by omega) (by rw [e12]; exact hDP y hy) ?_
          rw [e9, x3, e12, e13, e16, e17, c1, e36]
          have := nam q _ (show bnd (s.2 9) (nuR s v) (s.2 12) (s.2 13) 70 y (nuR s v y) = bdR s v y (if isB s y then v else s.2 10 y) from by
            rw [hb3]
            show bdR s v y (nuR s v y) = bdR s v y (s.2 10 y)
            unfold nuR
            rw [if_neg (fun q4 => by rw [q4] at q; omega)])
          rw [e36] at this
          exact this
        · rw [e36] at q2
          have hb3 := (bb (isB s y)).1 q2
          refine binderOf_ok (n := 70) (by omega) (by rw [e12]; exact hDP y hy) ?_
          rw [e9, x3, e12, e13, e16, e17, c1, e36]
          have := nam q _ (show bnd (s.2 9) (nuR s v) (s.2 12) (s.2 13) 70 y v = bdR s v y (if isB s y then v else s.2 10 y) from by
            rw [hb3]
            rfl)
          rw [e36] at this
          exact this
    -- the first one: which names it binds
    have fst : ∀ (m p : List Int) (x : SM), fl t = p ++ m → eqx [] [36] w x → (∀ (k : Nat) (y : Int), p[k]? = some y → x.2 36 k = if isB s y then 1 else 0) → wm iv L h0 (d + 1 + 1) 111 62 [lr 307, li v, li (s.2 10 (s.1 16)), li (cntp (isB s) p), li p.length] [] x (qi F) := by
      intro m
      induction m with
      | nil =>
        intro p x e x1 x2
        have ep : p = fl t := by rw [e]; simp
        have hl := LR_nil w2 e
        have e16 : x.1 16 = s.1 16 := (x1.1 16 (by decide)).trans w16
        refine B111_62 ⟨fun _ => ?_, fun q => by rw [x1.1 18 (by decide)] at q; omega⟩
        rw [e16, ep]
        refine ⟨by omega, snd (ua x 10 (s.1 16) v) (eqx_ua (x1.up (fun _ q => q) (fun y q => by simp at q ⊢; omega)) (by decide)) (fun k y hk => x2 k y (by rw [ep]; exact hk)) ?_ (fl t) [] false rfl (by simp)⟩
        funext y
        rw [ua_2, x1.2 10 (by decide), w10]
        unfold nuR
        by_cases e4 : y = s.1 16
        · rw [if_pos ⟨rfl, e4⟩, if_pos e4]
        · rw [if_neg (by omega), if_neg e4]
      | cons y m ih =>
        intro p x e x1 x2
        obtain ⟨c1, c2⟩ := LR_cons w2 e
        obtain ⟨c3, hy⟩ := h.fl80 e
        have hyl := h.lt hy
        have e' := e
        rw [app1] at e'
        have e1 : ((p ++ [y]).length : Int) = p.length + 1 := by simp
        have e18 : x.1 18 = w.1 18 := x1.1 18 (by decide)
        have e17 : x.2 17 = w.2 17 := x1.2 17 (by decide)
        have e16 : x.1 16 = s.1 16 := (x1.1 16 (by decide)).trans w16
        have e9 : x.2 9 = s.2 9 := (x1.2 9 (by decide)).trans w9
        have e10 : x.2 10 = s.2 10 := (x1.2 10 (by decide)).trans w10
        have e12 : x.2 12 = s.2 12 := (x1.2 12 (by decide)).trans w12
        have e13 : x.2 13 = s.2 13 := (x1.2 13 (by decide)).trans w13
        have cl := cntp_in (isB s) p
        have ep1 : cntp (isB s) (p ++ [y]) = cntp (isB s) p + (if isB s y then 1 else 0) := by
          rw [cntp_app]
          show _ + ((if isB s y then 1 else 0) + 0) = _
          omega
        have nx : ∀ z : Int, z = (if isB s y then 1 else 0) → wm iv L h0 (d + 1 + 1) 111 62 [lr 307, li v, li (s.2 10 (s.1 16)), li (cntp (isB s) p + z), li (p.length + 1)] [] (ua x 36 p.length z) (qi F) := fun z hz => by
          have := ih (p ++ [y]) (ua x 36 p.length z) e' (eqx_ua x1 (by decide)) (fun k y' hk => ?_)
          · rw [e1, ep1, ← hz] at this
            exact this
          · rw [ua_2]
            by_cases hkp : k < p.length
            · rw [List.getElem?_append_left hkp] at hk
              rw [if_neg (by omega)]
              exact x2 k y' hk
            · rw [List.getElem?_append_right (by omega)] at hk
              have hk0 : k = p.length := by
                have := (List.getElem?_eq_some_iff.mp hk).1
                simp at this
                omega
              subst hk0
              simp at hk
              subst hk
              rw [if_pos ⟨rfl, rfl⟩]
              exact hz
        have z0 : (ua x 36 (p.length : Int) 0).2 36 p.length = 0 := by simp [ua_2]
        have z1 : (ua x 36 (p.length : Int) 1).2 36 p.length = 1 := by simp [ua_2]
        have no : isB s y = false → (((ua x 36 (p.length : Int) 0).2 36 p.length = 0 → (-2147483648 ≤ cntp (isB s) p + 0 ∧ cntp (isB s) p + 0 ≤ 2147483647) ∧ (-2147483648 ≤ (p.length : Int) + 1 ∧ (p.length : Int) + 1 ≤ 2147483647) ∧ wm iv L h0 (d + 1 + 1) 111 62 [lr 307, li v, li (s.2 10 (s.1 16)), li (cntp (isB s) p + 0), li (p.length + 1)] [] (ua x 36 p.length 0) (qi F)) ∧ ((ua x 36 (p.length : Int) 0).2 36 p.length ≠ 0 → (-2147483648 ≤ cntp (isB s) p + 1 ∧ cntp (isB s) p + 1 ≤ 2147483647) ∧ (-2147483648 ≤ (p.length : Int) + 1 ∧ (p.length : Int) + 1 ≤ 2147483647) ∧ wm iv L h0 (d + 1 + 1) 111 62 [lr 307, li v, li (s.2 10 (s.1 16)), li (cntp (isB s) p + 1), li (p.length + 1)] [] (ua x 36 p.length 0) (qi F))) := fun hb =>
          ⟨fun _ => ⟨by omega, by omega, nx 0 (by rw [hb]; rfl)⟩, fun q => absurd z0 q⟩
        refine B111_62 ⟨fun q => by omega, fun _ => ?_⟩
        rw [e17, c1, e9, e10]
        refine ⟨by omega, by omega, fun q => no (by unfold isB; rw [decide_eq_false q]; rfl), fun q => ⟨fun q2 => no ?_, fun q2 => ?_⟩⟩
        · unfold isB
          rw [decide_eq_false (p := bds s y (s.2 10 y) = s.1 16), Bool.and_false]
          intro q3
          rcases bnd_nu (so := s.2 9) (nu := s.2 10) (up := s.2 12) (pl := s.2 13) 70 y (s.2 10 y) with q4 | q4
          · have : bds s y (s.2 10 y) = -9 := q4
            omega
          · have q4 : s.2 10 (bds s y (s.2 10 y)) = s.2 10 y := q4
            rw [q3] at q4
            exact q2 q4.symm
        · refine binderOf_ok (n := 70) (by omega) (by rw [e12]; exact hDP y hy) ?_
          rw [e9, e10, e12, e13, e16]
          have hbe : bnd (s.2 9) (s.2 10) (s.2 12) (s.2 13) 70 y (s.2 10 (s.1 16)) = bds s y (s.2 10 y) := by rw [← q2]
          rw [hbe]
          refine ⟨fun q3 => no ?_, fun q3 => ⟨fun q4 => ?_, fun _ => ⟨by omega, by omega, nx 1 ?_⟩⟩⟩
          · unfold isB; rw [decide_eq_false q3, Bool.and_false]
          · rw [z1] at q4; exact absurd q4 (by decide)
          · unfold isB; rw [decide_eq_true q3, decide_eq_true q]; rfl
    exact fst (fl t) [] w rfl eqx.rf (fun k y hk => by simp at hk)
  refine B111 ⟨fun hv => ⟨by omega, fun e => main hv (Or.inl e), fun e => ⟨fun e2 => main hv (Or.inr e2), fun e2 => ?_⟩⟩, fun hv => ?_⟩
  · have := H1 s (fun q => by have := q.2.1; omega) SX.rf
    rw [if_pos hv, if_neg (by omega)] at this
    exact this
  · have := H1 s (fun q => by have := q.1; omega) SX.rf
    rw [if_neg (by omega)] at this
    exact this
end
