/-! share, count, digest. -/
theorem tdiv_in {a b : Int} (ha : inR a) (h0 : b ≠ 0) (h1 : b ≠ -1) : inR (a.tdiv b) := by
  unfold inR at ha ⊢
  by_cases e : b = 1
  · subst e
    rw [Int.tdiv_one]
    exact ha
  · have h2 : 2 ≤ b.natAbs := by omega
    have h3 : (a.tdiv b).natAbs = a.natAbs / b.natAbs := Int.natAbs_tdiv a b
    have h4 : a.natAbs / b.natAbs ≤ a.natAbs / 2 := Nat.div_le_div_left h2 (by decide)
    omega
def shaN (s : SM) (i : Int) : Int := s.2 10 (s.2 72 i - 1)
def shaF (s : SM) (i j : Int) : Int := if lakA s i 1 = 2 ∨ lakA s j 1 = 2 then 2 else if lakA s i 1 = 1 ∨ lakA s j 1 = 1 then 1 else if lakA s i 1 = 3 ∨ lakA s j 1 = 3 then 3 else if shaN s j = 0 then 4 else 0
def shaA (s : SM) (i j : Int) : Int := if shaF s i j = 0 then 1 else -3
def shaV (s : SM) (i j : Int) : Int := if shaN s j = -1 then w32 (-(w32 (1000 * shaN s i))) else (w32 (1000 * shaN s i)).tdiv (shaN s j)
def shaU (s : SM) (i j : Int) : SM := if shaF s i j = 0 then us s 73 (shaV s i j) else mtU s (shaF s i j)
def cntA (s : SM) (t : Term) (k : Int) : Int := if k = 0 then s.1 2 else if k = 1 then s.1 8 else if k = 2 then s.1 24 else if k = 3 then cntp (isF (jdg s t)) (fl t) else if k = 4 then cntp (isH s) (fl t) else if k = 5 then s.2 37 0 + s.2 37 1 + s.2 37 2 + s.2 37 3 + s.2 37 4 + s.2 37 5 else if k = 6 then s.1 61 else -1
def dg1 (s : SM) (J : JT) (h x : Int) : Int := 31 * (31 * (31 * (31 * (31 * h + x) + s.2 9 x) + s.2 10 x) + s.2 11 x) + J.2.2 x
def digA (s : SM) (t : Term) : Int := 31 * (31 * (fl t).foldl (dg1 s (jdg s t)) 17 + s.1 16) + s.1 8
section
variable {iv : List (Int × Int)} {L : Nat} {h0 : MH} {s : SM} {t : Term} {d : Nat}
theorem share_ok {c i j : Int} {F : Int → SM → Prop} (hx : BX s) (h8 : s.1 8 ≤ 3000) (hc : CM c s) (hn : c ≤ 600) (H : F (shaA s i j) (shaU s i j)) : cm iv L h0 (d + 2) 155 [vr 307, vi i, vi j] s (qi F) := by
  unfold shaA shaU at H
  have la := lak_in (s := s) (i := i) (k := 1)
  have lb := lak_in (s := s) (i := j) (k := 1)
  have mt : ∀ f, (f = 1 ∨ f = 2 ∨ f = 3 ∨ f = 4) → shaF s i j = f → cm iv L h0 (d + 1) 61 [vr 307, vi f] s (qi fun r s => F r s) := fun f hf e => by
    refine meets_ok hc hn (by omega) ?_
    rw [if_neg (by omega), if_neg (by omega), e] at H
    exact H
  refine B155 (lacks_ok hx h8 (lacks_ok hx h8 ?_))
  have st3 : lakA s i 1 ≠ 2 → lakA s j 1 ≠ 2 → lakA s i 1 ≠ 1 → lakA s j 1 ≠ 1 → wm iv L h0 (d + 2) 155 18 [lr 307, li i, li j, li (lakA s i 1), li (lakA s j 1), li 3] [] s (qi F) := fun a1 a2 a3 a4 => by
    have e0 : shaF s i j = if lakA s i 1 = 3 ∨ lakA s j 1 = 3 then 3 else if shaN s j = 0 then 4 else 0 := by
      unfold shaF
      rw [if_neg (by omega), if_neg (by omega)]
    refine B155_18 ⟨fun q => by omega, fun _ => ⟨fun _ => ⟨fun _ => ⟨fun e => mt 3 (by omega) (by rw [e0, if_pos (Or.inl e)]), fun e => ⟨fun e2 => ⟨by omega, ?_⟩, fun e2 => mt 3 (by omega) (by rw [e0, if_pos (Or.inr e2)])⟩⟩, fun q => by omega⟩, fun q => by omega⟩⟩
    have z1 : lakA s i 1 = 0 := by omega
    have z2 : lakA s j 1 = 0 := by omega
    obtain ⟨b1, b2, b3⟩ := lak_0 hx z1
    obtain ⟨c1, c2, c3⟩ := lak_0 hx z2
    rw [if_neg (by omega)] at e0
    refine B155_18 ⟨fun _ => ⟨by omega, by omega, by omega, fun q => ⟨by omega, by omega, by omega, fun q2 => ⟨q, ?_, ?_⟩, fun q2 => ?_⟩, fun q => mt 4 (by omega) (by rw [e0, if_pos (show shaN s j = 0 from q)])⟩, fun q => by omega⟩
    · exact tdiv_in (w32_in _) q q2
    · have e1 : shaF s i j = 0 := by rw [e0, if_neg (show ¬ shaN s j = 0 from q)]
      rw [if_pos e1, if_pos e1, shaV, if_neg (show ¬ shaN s j = -1 from q2)] at H
      exact H
    · have e1 : shaF s i j = 0 := by rw [e0, if_neg (show ¬ shaN s j = 0 from q)]
      rw [if_pos e1, if_pos e1, shaV, if_pos (show shaN s j = -1 from q2)] at H
      exact H
  have st2 : lakA s i 1 ≠ 2 → lakA s j 1 ≠ 2 → wm iv L h0 (d + 2) 155 18 [lr 307, li i, li j, li (lakA s i 1), li (lakA s j 1), li 2] [] s (qi F) := fun a1 a2 => by
    have e0 : (lakA s i 1 = 1 ∨ lakA s j 1 = 1) → shaF s i j = 1 := fun q => by
      unfold shaF
      rw [if_neg (by omega), if_pos q]
    exact B155_18 ⟨fun q => by omega, fun _ => ⟨fun _ => ⟨fun q => absurd rfl q, fun _ => ⟨fun e => mt 1 (by omega) (e0 (Or.inl e)), fun e => ⟨fun e2 => ⟨by omega, st3 a1 a2 e e2⟩, fun e2 => mt 1 (by omega) (e0 (Or.inr e2))⟩⟩⟩, fun q => by omega⟩⟩
  have e0 : (lakA s i 1 = 2 ∨ lakA s j 1 = 2) → shaF s i j = 2 := fun q => by
    unfold shaF
    rw [if_pos q]
  exact B155_18 ⟨fun q => by omega, fun _ => ⟨fun q => absurd rfl q, fun _ => ⟨fun e => mt 2 (by omega) (e0 (Or.inl e)), fun e => ⟨fun e2 => ⟨by omega, st2 e e2⟩, fun e2 => mt 2 (by omega) (e0 (Or.inr e2))⟩⟩⟩⟩
theorem count_ok {k : Int} {F : Int → SM → Prop} (h : SHT s t) (hN : NB s) (hK : KIs s) (hs : ∀ p, 0 ≤ p → p < 6 → 0 ≤ s.2 37 p ∧ s.2 37 p ≤ 60) (hD : 240 ≤ d) (hF : ∀ w, SX [] [] s w → F (cntA s t k) w) : cm iv L h0 d 157 [vr 307, vi k] s (qi F) := by
  obtain ⟨d, rfl⟩ : ∃ k, d = k + 1 := ⟨d - 1, by omega⟩
  refine B157 ⟨fun hk => jl_ok h hN hK (by omega) (by omega) (fun w hw => ?_), fun hk => ?_⟩
  · obtain ⟨w1, w2, w3, w4, -⟩ := hw
    have h2 := hF w w2
    have e9 : w.2 9 = s.2 9 := w1.2 9 (by decide)
    have e37 : w.2 37 = s.2 37 := w1.2 37 (by decide)
    have lst : wm iv L h0 (d + 1) 157 94 [lr 307, li k, li (cntp (isF (jdg s t)) (fl t)), li (cntp (isH s) (fl t)), li 0, li 0] [] w (qi F) := by
      have p0 := hs 0 (by decide) (by decide)
      have p1 := hs (0 + 1) (by decide) (by decide)
      have p2 := hs (0 + 1 + 1) (by decide) (by decide)
      have p3 := hs (0 + 1 + 1 + 1) (by decide) (by decide)
      have p4 := hs (0 + 1 + 1 + 1 + 1) (by decide) (by decide)
      have p5 := hs (0 + 1 + 1 + 1 + 1 + 1) (by decide) (by decide)
      refine B157_94 ⟨fun q => by omega, fun _ => ⟨by omega, by rw [e37]; omega, by omega, ?_⟩⟩
      refine B157_94 ⟨fun q => by omega, fun _ => ⟨by omega, by rw [e37]; omega, by omega, ?_⟩⟩
      refine B157_94 ⟨fun q => by omega, fun _ => ⟨by omega, by rw [e37]; omega, by omega, ?_⟩⟩
      refine B157_94 ⟨fun q => by omega, fun _ => ⟨by omega, by rw [e37]; omega, by omega, ?_⟩⟩
      refine B157_94 ⟨fun q => by omega, fun _ => ⟨by omega, by rw [e37]; omega, by omega, ?_⟩⟩
      refine B157_94 ⟨fun q => by omega, fun _ => ⟨by omega, by rw [e37]; omega, by omega, ?_⟩⟩
      unfold cntA at h2
      refine B157_94 ⟨fun _ => ⟨fun q => ?_, fun q => ?_, fun q => ?_, fun q => ?_, fun q => ?_, fun q => ?_, fun q => ?_⟩, fun q => by omega⟩
      · simp only [if_pos q] at h2
        rw [w1.1 2 (by decide)]; exact h2
      · subst q
        rw [w1.1 8 (by decide)]; exact h2
      · subst q
        rw [w1.1 24 (by decide)]; exact h2
      · subst q
        exact h2
      · subst q
        exact h2
      · subst q
        rw [e37]
        refine (show (0 + s.2 37 0 + s.2 37 (0 + 1) + s.2 37 (0 + 1 + 1) + s.2 37 (0 + 1 + 1 + 1) + s.2 37 (0 + 1 + 1 + 1 + 1) + s.2 37 (0 + 1 + 1 + 1 + 1 + 1)) = s.2 37 0 + s.2 37 1 + s.2 37 2 + s.2 37 3 + s.2 37 4 + s.2 37 5 from ?_) ▸ h2
        rw [Int.zero_add]
        rfl
      · obtain rfl : k = 6 := by omega
        rw [w1.1 61 (by decide)]; exact h2
    have key : ∀ (m p : List Int) (a b : Int), fl t = p ++ m → (0 ≤ a ∧ a ≤ p.length) → (0 ≤ b ∧ b ≤ p.length) → cntp (isF (jdg s t)) (fl t) = a + cntp (isF (jdg s t)) m → cntp (isH s) (fl t) = b + cntp (isH s) m → wm iv L h0 (d + 1) 157 27 [lr 307, li k, li a, li b, li p.length] [] w (qi F) := by
      intro m
      induction m with
      | nil =>
        intro p a b e ha hb ea eb
        have := LR_nil w3 e
        refine B157_27 ⟨fun _ => ?_, fun q => by omega⟩
        rw [ea, eb, show cntp (isF (jdg s t)) [] = 0 from rfl, show cntp (isH s) [] = 0 from rfl, Int.add_zero, Int.add_zero] at lst
        exact lst
      | cons x m ih =>
        intro p a b e ha hb ea eb
        obtain ⟨c1, c2⟩ := LR_cons w3 e
        obtain ⟨c3, hx⟩ := h.fl80 e
        have hlt := h.lt hx
        have e' := e
        rw [app1] at e'
        have e1 : ((p ++ [x]).length : Int) = p.length + 1 := by simp
        have nx : ∀ u v : Int, u = (if isF (jdg s t) x then 1 else 0) → v = (if isH s x then 1 else 0) → (0 ≤ u ∧ u ≤ 1) → (0 ≤ v ∧ v ≤ 1) → wm iv L h0 (d + 1) 157 27 [lr 307, li k, li (a + u), li (b + v), li (p.length + 1)] [] w (qi F) := fun u v eu ev hu hv => by
          have := ih (p ++ [x]) (a + u) (b + v) e' (by rw [e1]; omega) (by rw [e1]; omega) (by rw [ea, eu, Int.add_assoc]; rfl) (by rw [eb, ev, Int.add_assoc]; rfl)
          rw [e1] at this
          exact this
        rw [show (p.length : Int) = p.length from rfl]
        refine B157_27 ⟨fun q => by omega, fun _ => ?_⟩
        rw [c1, e9, (w4 x hx).1]
        refine ⟨by omega, by omega, fun g => ⟨by omega, fun g2 => ⟨by omega, by omega, nx 0 0 ?_ ?_ (by decide) (by decide)⟩, fun g2 => ⟨by omega, by omega, nx 0 1 ?_ ?_ (by decide) (by decide)⟩⟩, fun g => ⟨by omega, fun g2 => ⟨by omega, by omega, nx 1 0 ?_ ?_ (by decide) (by decide)⟩, fun g2 => ⟨by omega, by omega, nx 1 1 ?_ ?_ (by decide) (by decide)⟩⟩⟩
        · simp [isF]; omega
        · simp [isH, g2]
        · simp [isF]; omega
        · simp [isH, g2]
        · simp [isF]; omega
        · simp [isH, g2]
        · simp [isF]; omega
        · simp [isH, g2]
    exact key (fl t) [] 0 0 rfl (by simp) (by simp) (by simp) (by simp)
  · have := hF s SX.rf
    rw [cntA, if_neg (by omega), if_neg (by omega), if_neg (by omega), if_neg (by omega), if_neg (by omega), if_neg (by omega), if_neg (by omega)] at this
    exact this
theorem digest_ok {F : Int → SM → Prop} (h : SHT s t) (hN : NB s) (hK : KIs s) (hD : 240 ≤ d) (hF : ∀ w, SX [] [] s w → F (digA s t) w) : cm iv L h0 d 158 [vr 307] s (ql F) := by
  obtain ⟨d, rfl⟩ : ∃ k, d = k + 1 := ⟨d - 1, by omega⟩
  refine B158 (jl_ok h hN hK (by omega) (by omega) (fun w hw => ?_))
  obtain ⟨w1, w2, w3, w4, -⟩ := hw
  have h2 := hF w w2
  have e9 : w.2 9 = s.2 9 := w1.2 9 (by decide)
  have e10 : w.2 10 = s.2 10 := w1.2 10 (by decide)
  have e11 : w.2 11 = s.2 11 := w1.2 11 (by decide)
  have key : ∀ (m p : List Int) (a : Int), fl t = p ++ m → (fl t).foldl (dg1 s (jdg s t)) 17 = m.foldl (dg1 s (jdg s t)) a → wm iv L h0 (d + 1) 158 14 [lr 307, ll a, ln, li p.length] [] w (ql F) := by
    intro m
    induction m with
    | nil =>
      intro p a e ea
      have := LR_nil w3 e
      refine B158_14 ⟨fun _ => ?_, fun q => by omega⟩
      rw [w1.1 16 (by decide), w1.1 8 (by decide)]
      rw [digA, ea] at h2
      exact h2
    | cons x m ih =>
      intro p a e ea
      obtain ⟨c1, c2⟩ := LR_cons w3 e
      obtain ⟨c3, hx⟩ := h.fl80 e
      have hlt := h.lt hx
      have e' := e
      rw [app1] at e'
      have e1 : ((p ++ [x]).length : Int) = p.length + 1 := by simp
      refine B158_14 ⟨fun q => by omega, fun _ => ?_⟩
      rw [c1]
      refine ⟨by omega, by omega, by omega, ?_⟩
      have := ih (p ++ [x]) _ e' ea
      rw [e1] at this
      rw [e9, e10, e11, (w4 x hx).1]
      exact this
  exact key (fl t) [] 17 rfl rfl
end
