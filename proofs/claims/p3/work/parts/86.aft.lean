/-! What holds of the sheet behind an act. -/
def AFT (s : SM) (t : Term) : Prop := SHT s t ∧ NB s ∧ s.1 16 ∈ fl t
theorem AFT.x {ey ef : List Nat} {s w : SM} {t : Term} (h : AFT s t) (hx : SX ey ef s w) (hy : 2 ∉ ey ∧ 8 ∉ ey ∧ 15 ∉ ey ∧ 16 ∉ ey) (hf : 9 ∉ ef ∧ 10 ∉ ef ∧ 11 ∉ ef ∧ 12 ∉ ef ∧ 13 ∉ ef ∧ 14 ∉ ef) : AFT w t :=
  ⟨h.1.x hx ⟨hy.2.1, hy.2.2.1⟩ ⟨hf.1, hf.2.2.2⟩, h.2.1.x hx h.1.2.2.2.2.1.2 ⟨hy.1, hy.2.1⟩ ⟨hf.1, hf.2.1, hf.2.2.1⟩, by rw [hx.1 16 (by decide) hy.2.2.2]; exact h.2.2⟩
def nodOk (s : SM) (x : Int) : Prop := (0 ≤ s.2 9 x ∧ s.2 9 x < 16) ∧ ((s.2 9 x = 3 ∨ s.2 9 x = 8 ∨ s.2 9 x = 10) → 0 ≤ s.2 10 x ∧ s.2 10 x < 26) ∧ (s.2 9 x = 2 → s.2 10 x = 0 ∨ s.2 10 x = 1) ∧ ((s.2 9 x = 8 ∨ s.2 9 x = 15) → 0 ≤ s.2 11 x ∧ s.2 11 x < s.1 2)
theorem NB_new {s w : SM} (h : NB s) (h2 : w.1 2 = s.1 2) (ho : ∀ y, 0 ≤ y → y < s.1 8 → w.2 9 y = s.2 9 y ∧ w.2 10 y = s.2 10 y ∧ w.2 11 y = s.2 11 y) (hn : ∀ y, s.1 8 ≤ y → y < w.1 8 → nodOk w y) : NB w := fun x x0 x1 => by
  by_cases e : x < s.1 8
  · obtain ⟨e1, e2, e3⟩ := ho x x0 e
    rw [e1, e2, e3, h2]
    exact h x x0 e
  · exact hn x (by omega) x1
theorem nodOk_hole {w : SM} {x : Int} (h : w.2 9 x = 0) : nodOk w x := by
  unfold nodOk
  rw [h]
  exact ⟨by decide, fun q => by omega, fun q => by omega, fun q => by omega⟩
section
variable {s : SM} {t : Term}
theorem wri_aft {v : Int} (h : AFT s t) (hg : wriOk s v) : AFT (ua s 10 (s.1 16) v) t := by
  obtain ⟨h1, h2, h3⟩ := h
  refine ⟨?_, fun x x0 x1 => ?_, h3⟩
  · exact h1
  · have hn := h2 x x0 x1
    show (0 ≤ s.2 9 x ∧ s.2 9 x < 16) ∧ ((s.2 9 x = 3 ∨ s.2 9 x = 8 ∨ s.2 9 x = 10) → 0 ≤ (ua s 10 (s.1 16) v).2 10 x ∧ (ua s 10 (s.1 16) v).2 10 x < 26) ∧ (s.2 9 x = 2 → (ua s 10 (s.1 16) v).2 10 x = 0 ∨ (ua s 10 (s.1 16) v).2 10 x = 1) ∧ ((s.2 9 x = 8 ∨ s.2 9 x = 15) → 0 ≤ s.2 11 x ∧ s.2 11 x < s.1 2)
    rw [ua_2]
    by_cases e : x = s.1 16
    · rw [if_pos ⟨rfl, e⟩]
      obtain ⟨g1, g2, g3⟩ := hg
      rw [← e] at g1 g2 g3
      exact ⟨hn.1, fun q => by omega, fun q => by omega, hn.2.2.2⟩
    · rw [if_neg (by omega)]
      exact hn
theorem sq_in (h : SHT s t) {c y : Int} (hc : c ∈ fl t) (hy : y ∈ fl (sq c t)) : 0 ≤ y ∧ y < s.1 8 := by
  obtain ⟨a1, a2, a3, a4, a5, a6, a7⟩ := sq_ok h.1 h.2.1 h.2.2.1 hc
  have := h.lt (a4 y hy)
  omega
theorem len_rp (h : SHT s t) {c : Int} (hc : c ∈ fl t) (u : Term) : (fl (rpT c u t)).length + (fl (sq c t)).length = (fl t).length + (fl u).length ∧ ∀ y, y ∈ fl u → y ∈ fl (rpT c u t) := by
  obtain ⟨a, z, e1, e2, -⟩ := rpT_fl h.1 h.2.2.1 hc
  refine ⟨?_, fun y hy => by rw [e2]; simp [hy]⟩
  rw [e2]
  conv => rhs; rw [e1]
  simp only [List.length_append]
  omega
theorem sq_pos (h : SHT s t) {c : Int} (hc : c ∈ fl t) : 1 ≤ (fl (sq c t)).length := by
  obtain ⟨a1, a2, a3, a4, a5, a6, a7⟩ := sq_ok h.1 h.2.1 h.2.2.1 hc
  exact List.length_pos_of_mem (hd_mem _ a1)
/-- a new node in the place of c, nothing on it yet -/
theorem new_in (h : SHT s t) {so v k c : Int} (hc : c ∈ fl t) (hso : 0 ≤ so ∧ so < 16) : ATs (replU (bornU s so v k) c (s.1 8)) (.index (s.1 8).toNat) ∧ (replU (bornU s so v k) c (s.1 8)).1 8 = s.1 8 + 1 ∧ ((replU (bornU s so v k) c (s.1 8)).2 9 (s.1 8) = so ∧ (replU (bornU s so v k) c (s.1 8)).2 10 (s.1 8) = nvl so v ∧ (replU (bornU s so v k) c (s.1 8)).2 11 (s.1 8) = kvl so k) ∧
    (∀ y, y < s.1 8 → ((replU (bornU s so v k) c (s.1 8)).2 9 y = s.2 9 y ∧ (replU (bornU s so v k) c (s.1 8)).2 10 y = s.2 10 y ∧ (replU (bornU s so v k) c (s.1 8)).2 11 y = s.2 11 y) ∧ ((replU (bornU s so v k) c (s.1 8)).2 12 y = s.2 12 y ∧ (replU (bornU s so v k) c (s.1 8)).2 13 y = s.2 13 y) ∧ ∀ i, 3 * y + i ≠ 3 * s.2 12 c + s.2 13 c → (replU (bornU s so v k) c (s.1 8)).2 14 (3 * y + i) = s.2 14 (3 * y + i)) ∧
    (((replU (bornU s so v k) c (s.1 8)).2 12 (s.1 8) = s.2 12 c ∧ (replU (bornU s so v k) c (s.1 8)).2 13 (s.1 8) = s.2 13 c) ∧ (c ≠ hd t → (replU (bornU s so v k) c (s.1 8)).2 14 (3 * s.2 12 c + s.2 13 c) = s.1 8) ∧ (replU (bornU s so v k) c (s.1 8)).1 15 = if c = hd t then s.1 8 else s.1 15) := by
  have hB := h.2.2.2.2.1
  have e8 : (((s.1 8).toNat : Nat) : Int) = s.1 8 := by omega
  obtain ⟨r1, r2, r3, r4, r5⟩ := replU_in (b := s.1 8) h hc (show (bornU s so v k).2 12 c = s.2 12 c by rw [bornU_e.2 12 (by decide)]) (show (bornU s so v k).2 13 c = s.2 13 c by rw [bornU_e.2 13 (by decide)])
  obtain ⟨d1, d2, d3⟩ := bornU_at (s := s) (so := so) (v := v) (k := k)
  have n8 : (replU (bornU s so v k) c (s.1 8)).1 8 = s.1 8 + 1 := by rw [replU_e.1 8 (by decide), bornU_8]
  have n9 := replU_e.2 9 (by decide) ▸ (rfl : (replU (bornU s so v k) c (s.1 8)).2 9 = (replU (bornU s so v k) c (s.1 8)).2 9)
  refine ⟨⟨?_, ?_⟩, n8, ⟨?_, ?_, ?_⟩, fun y hy => ⟨⟨?_, ?_, ?_⟩, ⟨?_, ?_⟩, fun i hi => ?_⟩, r1, r2, ?_⟩
  · rw [e8, n8]; omega
  · rw [e8, replU_e.2 9 (by decide), d1]; exact hso
  · rw [replU_e.2 9 (by decide)]; exact d1
  · rw [replU_e.2 10 (by decide)]; exact d2
  · rw [replU_e.2 11 (by decide)]; exact d3
  · rw [replU_e.2 9 (by decide)]; exact (bornU_o y hy).1.1
  · rw [replU_e.2 10 (by decide)]; exact (bornU_o y hy).1.2.1
  · rw [replU_e.2 11 (by decide)]; exact (bornU_o y hy).1.2.2
  · rw [(r4 y (by omega)).1, bornU_e.2 12 (by decide)]
  · rw [(r4 y (by omega)).2, bornU_e.2 13 (by decide)]
  · rw [r5 _ hi, bornU_e.2 14 (by decide)]
  · rw [r3, bornU_e.1 15 (by decide)]
theorem take_aft (h : AFT s t) (hg : tkOk s) : AFT (tkU s) (tkT s t) := by
  obtain ⟨h1, h2, h3⟩ := h
  have hB := h1.2.2.2.2.1
  have h8 : s.1 8 < 3000 := by have := hg.2; omega
  have e8 : (((s.1 8).toNat : Nat) : Int) = s.1 8 := by omega
  obtain ⟨n1, n2, n3, n4, n5, n6, n7⟩ := new_in (so := 0) (v := -9) (k := -9) h1 h3 (by decide)
  have hl := len_rp h1 h3 (.index (s.1 8).toNat)
  have hp := sq_pos h1 h3
  have hll := h1.2.2.2.1
  have f1 : (fl (Term.index (s.1 8).toNat)).length = 1 := rfl
  refine ⟨SHT_rp (w := tkU s) h1 h3 ⟨?_, ?_⟩ n1 ?_ ?_ (fun y hy hyt => ?_) (fun y hy _ => ?_) ?_ ?_ ?_ (by omega), NB_new h2 ?_ (fun y y0 y1 => (n4 y y1).1) (fun y y0 y1 => ?_), ?_⟩
  · show s.1 8 ≤ (replU _ _ _).1 8; omega
  · show (replU _ _ _).1 8 ≤ 3000; omega
  · show (0 : Int) = pO ((replU (bornU s 0 (-9) (-9)) (s.1 16) (s.1 8)).2 9 (((s.1 8).toNat : Nat) : Int))
    rw [e8, n3.1]; rfl
  · simp [fl]
  · have := List.mem_singleton.mp hy
    have := h1.lt hyt
    omega
  · have hy2 := h1.lt hy
    obtain ⟨a1, a2, a3⟩ := n4 y hy2.2.1
    exact ⟨a1.1, a2.1, a2.2, fun i _ _ hi => a3 i hi⟩
  · show (replU _ _ _).2 12 (((s.1 8).toNat : Nat) : Int) = _ ∧ (replU _ _ _).2 13 (((s.1 8).toNat : Nat) : Int) = _
    rw [e8]; exact n5
  · intro q
    show (replU _ _ _).2 14 _ = (((s.1 8).toNat : Nat) : Int)
    rw [e8]; exact n6 q
  · show (replU _ _ _).1 15 = if _ then (((s.1 8).toNat : Nat) : Int) else _
    rw [e8]; exact n7
  · exact (replU_e.1 2 (by decide)).trans (bornU_e.1 2 (by decide))
  · have : y < (replU (bornU s 0 (-9) (-9)) (s.1 16) (s.1 8)).1 8 := y1
    obtain rfl : y = s.1 8 := by omega
    exact nodOk_hole n3.1
  · show s.1 8 ∈ _
    exact hl.2 _ (by show s.1 8 ∈ [(((s.1 8).toNat : Nat) : Int)]; rw [e8]; simp)
theorem unwrap_aft {i : Int} (h : AFT s t) (hg : uwOk s i) : AFT (uwU s i) (uwT s t i) := by
  obtain ⟨h1, h2, h3⟩ := h
  obtain ⟨a1, a2, a3, a4, a5, a6, a7⟩ := sq_ok h1.1 h1.2.1 h1.2.2.1 h3
  have hna : i < na (sq (s.1 16) t) := by
    unfold full at a2
    rw [a2, a3]
    exact hg.2
  obtain ⟨p1, p2, p3, p4, p5, p6, p7, p8, p9⟩ := prt_ok _ a1 a5 hg.1 hna
  rw [a3] at p3 p5 p8
  have hup := sq_up h1 h3
  have hl := len_rp h1 h3 (prt i (sq (s.1 16) t))
  have hll := h1.2.2.2.1
  have hpm := hd_mem _ p1
  obtain ⟨r1, r2, r3, r4, r5⟩ := replU_in (b := s.2 14 (3 * s.1 16 + i)) h1 h3 rfl rfl
  have e8 : (uwU s i).1 8 = s.1 8 := replU_e.1 8 (by decide)
  have e9 : (uwU s i).2 9 = s.2 9 := replU_e.2 9 (by decide)
  refine ⟨SHT_rp (w := uwU s i) h1 h3 (by rw [e8]; exact ⟨Int.le_refl _, h1.2.2.2.2.1.2⟩) ?_ ?_ p6 (fun y hy _ => p4 y hy) (fun y hy hyn => ?_) ?_ ?_ ?_ (by omega), fun x x0 x1 => ?_, ?_⟩
  · refine AT_cg (by rw [e8]; exact Int.le_refl _) _ p1 p6 (fun x hx => ⟨by rw [e9], fun j j0 j1 _ => ?_⟩) (fun x hx hne => ?_)
    · refine r5 _ (fun q => ?_)
      have := pO_in (s.2 9 x)
      have hx2 := p4 x hx
      rcases up_in h1 h3 with e | e
      · have := h1.lt (a4 x hx2)
        have e13 : s.1 16 = hd t := Classical.byContradiction fun q => by
          have := h1.lt ((AT_mem t h1.1 _ h3).2.2.2 q).1
          omega
        have := h1.2.2.2.2.2.2.2
        rw [← e13] at this
        omega
      · have : x = s.2 12 (s.1 16) := by omega
        exact hup (by rw [← this]; exact hx2)
    · rw [p3] at hne
      exact r4 x hne
  · unfold full
    rw [e9]
    exact p2
  · have hy2 := h1.lt hy
    have hne : y ≠ s.2 14 (3 * s.1 16 + i) := fun q => hyn (p4 y (by rw [q, ← p3]; exact hpm))
    exact ⟨by rw [e9], (r4 y hne).1, (r4 y hne).2, fun j j0 j3 hj => r5 _ hj⟩
  · rw [p3]; exact r1
  · rw [p3]; exact r2
  · rw [p3]; exact r3
  · rw [e8] at x1
    rw [e9, show (uwU s i).2 10 = s.2 10 from replU_e.2 10 (by decide), show (uwU s i).2 11 = s.2 11 from replU_e.2 11 (by decide), show (uwU s i).1 2 = s.1 2 from replU_e.1 2 (by decide)]
    exact h2 x x0 x1
  · show s.2 14 (3 * s.1 16 + i) ∈ _
    rw [← p3]
    exact hl.2 _ hpm
theorem adds_len (m B : Nat) (u : Term) : (fl (adds m B u)).length = (fl u).length + m := by
  rw [adds_fl]; simp
theorem adds_mem {m B : Nat} {u : Term} {y : Int} (h : y ∈ fl (adds m B u)) : y ∈ fl u ∨ ((B : Int) ≤ y ∧ y < B + m) := by
  rw [adds_fl] at h
  rcases List.mem_append.mp h with h | h
  · exact Or.inl h
  · obtain ⟨z, h1, h2⟩ := List.mem_map.mp h
    obtain ⟨h3, h4⟩ := List.mem_range'_1.mp h1
    right
    rw [← h2]
    show (B : Int) ≤ (z : Int) ∧ (z : Int) < B + m
    omega
theorem put_aft {so v k : Int} (h : AFT s t) (hg : putOk s t so v k) : AFT (putU s so v k) (putT s t so) := by
  obtain ⟨h1, h2, h3⟩ := h
  have hB := h1.2.2.2.2.1
  have hll := h1.2.2.2.1
  obtain ⟨⟨g1, g2, g3, g4⟩, g5, g6, g7⟩ := hg
  have hpo := pO_in so
  have h8 : s.1 8 < 3000 := by unfold pfr at g7; split at g7 <;> omega
  have e8 : (((s.1 8).toNat : Nat) : Int) = s.1 8 := by omega
  have hct := h1.lt h3
  obtain ⟨n1, n2, n3, n4, n5, n6, n7⟩ := new_in (so := so) (v := v) (k := k) h1 h3 (by omega)
  have hp := sq_pos h1 h3
  -- what the new node bears is right
  have nok : ∀ w : SM, w.2 9 (s.1 8) = so → w.2 10 (s.1 8) = nvl so v → w.2 11 (s.1 8) = kvl so k → w.1 2 = s.1 2 → nodOk w (s.1 8) := fun w w9 w10 w11 w2 => by
    unfold nodOk
    rw [w9, w10, w11, w2]
    unfold nvl kvl
    refine ⟨by omega, fun q => ?_, fun q => ?_, fun q => ?_⟩
    · rw [if_pos (by omega)]; have := g3 q; omega
    · rw [if_pos (by omega)]; have := g2 q; omega
    · rw [if_pos q]; exact g4 q
  -- the cells behind all of it, out of those behind the new node's coming
  have fin : ∀ (x : SM) (u : Term) (m : Nat) (i : Int), x.1 8 = s.1 8 + 1 → ATs x u → (fl u).Nodup → hd u = s.1 8 → na u = i → i + m = pO so → (x.2 9 (s.1 8) = so ∧ x.2 10 (s.1 8) = nvl so v ∧ x.2 11 (s.1 8) = kvl so k) → (x.2 12 (s.1 8) = s.2 12 (s.1 16) ∧ x.2 13 (s.1 8) = s.2 13 (s.1 16)) → (s.1 16 ≠ hd t → x.2 14 (3 * s.2 12 (s.1 16) + s.2 13 (s.1 16)) = s.1 8) → (x.1 15 = if s.1 16 = hd t then s.1 8 else s.1 15) → x.1 2 = s.1 2 →
      (∀ y, 0 ≤ y → y < s.1 8 → x.2 9 y = s.2 9 y ∧ x.2 10 y = s.2 10 y ∧ x.2 11 y = s.2 11 y) → (∀ y, y ∈ fl t → y ∉ fl (sq (s.1 16) t) → (x.2 12 y = s.2 12 y ∧ x.2 13 y = s.2 13 y) ∧ ∀ i, 0 ≤ i → i < 3 → 3 * y + i ≠ 3 * s.2 12 (s.1 16) + s.2 13 (s.1 16) → x.2 14 (3 * y + i) = s.2 14 (3 * y + i)) → (∀ y, y ∈ fl u → y ∈ fl t → y ∈ fl (sq (s.1 16) t)) → ((fl u).length + m + (fl t).length ≤ 60 + (fl (sq (s.1 16) t)).length) → s.1 8 + 1 + m ≤ 3000 →
      AFT (us (hlsU (s.1 8) m i x) 16 (s.1 8)) (rpT (s.1 16) (adds m ((s.1 8).toNat + 1) u) t) := by
    intro x u m i x8 xu xn xh xa xi x9 xup xpa xt x2 xo xf xd xl xb
    obtain ⟨q1, q2, q3, q4, q5, q6, q7⟩ := hlsU_ok m i x u xu xn xh xa (by rw [x9.1]; exact xi) (by omega)
    have t8 : (x.1 8).toNat = (s.1 8).toNat + 1 := by omega
    rw [t8] at q1 q2
    have ah := adds_hd m ((s.1 8).toNat + 1) u
    have hl := len_rp h1 h3 (adds m ((s.1 8).toNat + 1) u)
    rw [adds_len] at hl
    have old : ∀ y, 0 ≤ y → y < s.1 8 → (hlsU (s.1 8) m i x).2 9 y = s.2 9 y ∧ (hlsU (s.1 8) m i x).2 10 y = s.2 10 y ∧ (hlsU (s.1 8) m i x).2 11 y = s.2 11 y := fun y y0 y1 => by
      obtain ⟨⟨c1, c2, c3⟩, -⟩ := q4 y ⟨by omega, by omega⟩
      obtain ⟨d1, d2, d3⟩ := xo y y0 y1
      exact ⟨c1.trans d1, c2.trans d2, c3.trans d3⟩
    refine ⟨SHT_rp (w := us (hlsU (s.1 8) m i x) 16 (s.1 8)) h1 h3 ⟨?_, ?_⟩ q1 ?_ q2 (fun y hy hyt => ?_) (fun y hy hyn => ?_) ?_ (fun q => ?_) ?_ (by omega), NB_new h2 ?_ old (fun y y0 y1 => ?_), ?_⟩
    · show s.1 8 ≤ (hlsU (s.1 8) m i x).1 8; omega
    · show (hlsU (s.1 8) m i x).1 8 ≤ 3000; omega
    · show na (adds m ((s.1 8).toNat + 1) u) = pO ((hlsU (s.1 8) m i x).2 9 (hd (adds m ((s.1 8).toNat + 1) u)))
      rw [ah.1, ah.2, xh, q6.1, x9.1, xa]
      exact xi
    · rcases adds_mem hy with q | q
      · exact xd y q hyt
      · have := h1.lt hyt
        omega
    · have hy2 := h1.lt hy
      obtain ⟨c1, c2⟩ := xf y hy hyn
      obtain ⟨c3, c4, c5⟩ := q4 y ⟨by omega, by omega⟩
      exact ⟨(old y hy2.1 hy2.2.1).1, c4.1.trans c1.1, c4.2.trans c1.2, fun j j0 j3 hj => (c5 j j0 j3).trans (c2 j j0 j3 hj)⟩
    · rw [ah.1, xh]
      exact ⟨q6.2.2.2.1.trans xup.1, q6.2.2.2.2.trans xup.2⟩
    · rw [ah.1, xh]
      obtain ⟨u1, u2, u3⟩ := (AT_mem t h1.1 _ h3).2.2.2 q
      have ul := h1.lt u1
      have := pO_in (s.2 9 (s.2 12 (s.1 16)))
      exact ((q4 (s.2 12 (s.1 16)) ⟨by omega, by omega⟩).2.2 _ u2.1 (by omega)).trans (xpa q)
    · rw [ah.1, xh]
      exact (q5.1 15 (by decide)).trans xt
    · exact (q5.1 2 (by decide)).trans x2
    · have y1 : y < (hlsU (s.1 8) m i x).1 8 := y1
      by_cases e : y = s.1 8
      · rw [e]
        exact nok _ (q6.1.trans x9.1) (q6.2.1.trans x9.2.1) (q6.2.2.1.trans x9.2.2) ((q5.1 2 (by decide)).trans x2)
      · exact nodOk_hole (q7 y (by omega) (by omega)).1
    · show s.1 8 ∈ _
      have hm := hd_mem _ q1
      rw [ah.1, xh] at hm
      exact hl.2 _ hm
  have x2 : (replU (bornU s so v k) (s.1 16) (s.1 8)).1 2 = s.1 2 := (replU_e.1 2 (by decide)).trans (bornU_e.1 2 (by decide))
  by_cases ho : s.2 9 (s.1 16) = 0
  · have eU : putU s so v k = us (hlsU (s.1 8) (pO so).toNat 0 (replU (bornU s so v k) (s.1 16) (s.1 8))) 16 (s.1 8) := by unfold putU; rw [if_pos ho]
    have eT : putT s t so = rpT (s.1 16) (adds (pO so).toNat ((s.1 8).toNat + 1) (.index (s.1 8).toNat)) t := by unfold putT; rw [if_pos ho]
    unfold pfr at g7
    rw [if_pos ho] at g7
    rw [eU, eT]
    refine fin _ _ _ 0 n2 n1 (by simp [fl]) e8 rfl (by omega) n3 n5 n6 n7 x2 (fun y _ y1 => (n4 y y1).1) (fun y hy _ => ?_) (fun y hy hyt => ?_) (by show 1 + _ + _ ≤ _; omega) (by omega)
    · obtain ⟨c1, c2, c3⟩ := n4 y (h1.lt hy).2.1
      exact ⟨c2, fun i _ _ hi => c3 i hi⟩
    · have := List.mem_singleton.mp hy
      have := h1.lt hyt
      omega
  · have eU : putU s so v k = us (hlsU (s.1 8) (pO so - 1).toNat 1 (partU (replU (bornU s so v k) (s.1 16) (s.1 8)) (s.1 8) 0 (s.1 16))) 16 (s.1 8) := by unfold putU; rw [if_neg ho]
    have eT : putT s t so = rpT (s.1 16) (adds (pO so - 1).toNat ((s.1 8).toNat + 1) (.add (.index (s.1 8).toNat) (sq (s.1 16) t))) t := by unfold putT; rw [if_neg ho]
    unfold pfr at g7
    rw [if_neg ho] at g7
    have hn1 : 1 ≤ pO so := by omega
    rw [eU, eT]
    obtain ⟨a1, a2, a3, a4, a5, a6, a7⟩ := sq_ok h1.1 h1.2.1 h1.2.2.1 h3
    have hup := sq_up h1 h3
    have hO := partU_o (s := replU (bornU s so v k) (s.1 16) (s.1 8)) (b := s.1 8) (i := 0) (c := s.1 16) (by decide)
    have pe := partU_e (s := replU (bornU s so v k) (s.1 16) (s.1 8)) (b := s.1 8) (i := 0) (c := s.1 16)
    obtain ⟨pa1, pa2, pa3⟩ := partU_at (s := replU (bornU s so v k) (s.1 16) (s.1 8)) (b := s.1 8) (i := 0) (c := s.1 16)
    have w9 : ∀ y, y < s.1 8 → (partU (replU (bornU s so v k) (s.1 16) (s.1 8)) (s.1 8) 0 (s.1 16)).2 9 y = s.2 9 y := fun y hy => by rw [pe.2 9 (by decide)]; exact (n4 y hy).1.1
    -- cells of parts, of those born before
    have w14 : ∀ y i, 0 ≤ i → i < 3 → y < s.1 8 → 3 * y + i ≠ 3 * s.2 12 (s.1 16) + s.2 13 (s.1 16) → (partU (replU (bornU s so v k) (s.1 16) (s.1 8)) (s.1 8) 0 (s.1 16)).2 14 (3 * y + i) = s.2 14 (3 * y + i) := fun y i i0 i3 hy hi => by
      show (partU _ _ _ _).2 14 _ = _
      unfold partU
      rw [ua_2, if_neg (by omega), ua_2, if_neg (by omega), ua_2, if_neg (by omega)]
      exact (n4 y hy).2.2 i hi
    have w1213 : ∀ y, y ≠ s.1 16 → (partU (replU (bornU s so v k) (s.1 16) (s.1 8)) (s.1 8) 0 (s.1 16)).2 12 y = (replU (bornU s so v k) (s.1 16) (s.1 8)).2 12 y ∧ (partU (replU (bornU s so v k) (s.1 16) (s.1 8)) (s.1 8) 0 (s.1 16)).2 13 y = (replU (bornU s so v k) (s.1 16) (s.1 8)).2 13 y := fun y hy => by
      simp [partU, ua_2, hy]
    have hc8 : s.1 16 ≠ s.1 8 := by omega
    refine fin _ _ _ 1 n2 ⟨⟨by rw [e8]; show s.1 8 < (replU _ _ _).1 8; omega, ?_⟩, ?_, ?_, ?_, ?_, ?_, ?_⟩ ?_ e8 rfl (by omega) ?_ ?_ (fun q => ?_) n7 x2 (fun y _ y1 => ?_) (fun y hy hyn => ?_) (fun y hy hyt => ?_) ?_ (by omega)
    · rw [e8, pe.2 9 (by decide), n3.1]; omega
    · refine AT_cg (by show s.1 8 ≤ (replU _ _ _).1 8; omega) _ a1 a5 (fun x hx => ⟨w9 x (h1.lt (a4 x hx)).2.1, fun j j0 j1 _ => ?_⟩) (fun x hx hne => ?_)
      · have := pO_in (s.2 9 x)
        refine w14 x j j0 (by omega) (h1.lt (a4 x hx)).2.1 (fun q => ?_)
        rcases up_in h1 h3 with e | e
        · have := h1.lt (a4 x hx)
          have e13 : s.1 16 = hd t := Classical.byContradiction fun q => by
            have := h1.lt ((AT_mem t h1.1 _ h3).2.2.2 q).1
            omega
          have := h1.2.2.2.2.2.2.2
          rw [← e13] at this
          omega
        · have : x = s.2 12 (s.1 16) := by omega
          exact hup (by rw [← this]; exact hx)
      · rw [a3] at hne
        obtain ⟨c1, c2⟩ := w1213 x hne
        obtain ⟨-, c3, -⟩ := n4 x (h1.lt (a4 x hx)).2.1
        exact ⟨c1.trans c3.1, c2.trans c3.2⟩
    · unfold full at a2 ⊢
      rw [a2, a3, w9 _ hct.2.1]
    · show (0 : Int) < pO ((partU _ _ _ _).2 9 (((s.1 8).toNat : Nat) : Int))
      rw [e8, pe.2 9 (by decide), n3.1]; omega
    · show (partU _ _ _ _).2 14 (3 * (((s.1 8).toNat : Nat) : Int) + 0) = _
      rw [e8, a3]; exact pa1
    · rw [a3, show hd (Term.index (s.1 8).toNat) = s.1 8 from e8]; exact pa2
    · rw [a3]; exact pa3
    · refine List.nodup_append.mpr ⟨by simp [fl], a5, fun x hx y hy e => ?_⟩
      have := List.mem_singleton.mp hx
      have := h1.lt (a4 y hy)
      omega
    · rw [pe.2 9 (by decide), pe.2 10 (by decide), pe.2 11 (by decide)]; exact n3
    · obtain ⟨c1, c2⟩ := w1213 (s.1 8) (Ne.symm hc8)
      exact ⟨c1.trans n5.1, c2.trans n5.2⟩
    · obtain ⟨u1, u2, u3⟩ := (AT_mem t h1.1 _ h3).2.2.2 q
      have ul := h1.lt u1
      have := pO_in (s.2 9 (s.2 12 (s.1 16)))
      show (partU _ _ _ _).2 14 _ = _
      unfold partU
      rw [ua_2, if_neg (by omega), ua_2, if_neg (by omega), ua_2, if_neg (by omega)]
      exact n6 q
    · rw [pe.2 9 (by decide), pe.2 10 (by decide), pe.2 11 (by decide)]; exact (n4 y y1).1
    · have hyl := h1.lt hy
      have hne : y ≠ s.1 16 := fun q => hyn (by rw [q]; have := hd_mem _ a1; rw [a3] at this; exact this)
      obtain ⟨c1, c2⟩ := w1213 y hne
      obtain ⟨-, c3, -⟩ := n4 y hyl.2.1
      exact ⟨⟨c1.trans c3.1, c2.trans c3.2⟩, fun i i0 i3 hi => w14 y i i0 i3 hyl.2.1 hi⟩
    · rcases List.mem_append.mp hy with q | q
      · have := List.mem_singleton.mp q
        have := h1.lt hyt
        omega
      · exact q
    · have : (fl (Term.add (.index (s.1 8).toNat) (sq (s.1 16) t))).length = 1 + (fl (sq (s.1 16) t)).length := by show ([_] ++ fl (sq (s.1 16) t)).length = _; simp; omega
      omega
end
