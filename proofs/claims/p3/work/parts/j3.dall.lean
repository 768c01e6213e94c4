/-! Writing by the desk: a value's own part; all of a value (C252, C253, C247). -/
/-- nodes born, for writing -/
def NDW (A : Int → Nat) (c : SC) (s : SM) : Prop := (∀ b, 0 ≤ b → b < s.1 8 → kl c (A b) = 5 ∧ fI c (A b) 0 = b ∧ fI c (A b) 1 = s.2 9 b) ∧ s.1 8 ≤ 3004
/-- a step of writing was right -/
def OST (so : Int → Int) (V : Term) (o : List Int × List Term) (K : List (Int × Nat × Term)) (o' : List Int × List Term) (K' : List (Int × Nat × Term)) : Prop := runK so K' o' = runK so K (outT so V o) ∧ (o.1.length < 400 → o.1.length < o'.1.length ∧ (o'.1.length < 400 → K'.length + 3 * o.1.length ≤ K.length + 1 + 3 * o'.1.length)) ∧ o.1.length ≤ o'.1.length
theorem OST_of {so : Int → Int} {V : Term} {o o' : List Int × List Term} {K K' : List (Int × Nat × Term)} (hl : o.1.length ≤ 400) (h1 : o.1.length = 400 → o' = o) (h2 : o.1.length < 400 → runK so K' o' = runK so K (outT so V o) ∧ o.1.length < o'.1.length ∧ (o'.1.length < 400 → K'.length + 3 * o.1.length ≤ K.length + 1 + 3 * o'.1.length)) : OST so V o K o' K' := by
  by_cases h : o.1.length < 400
  · exact ⟨(h2 h).1, fun _ => (h2 h).2, Nat.le_of_lt (h2 h).2.1⟩
  · have h4 : o.1.length = 400 := by omega
    refine ⟨?_, fun w => absurd w h, by rw [h1 h4]; exact Nat.le_refl _⟩
    rw [h1 h4, outT_full h4, runK_full _ _ h4, runK_full _ _ h4]
theorem pB_len (x : Int) (o : List Int × List Term) : o.1.length ≤ (pB x o).1.length ∧ (o.1.length < 400 → (pB x o).1.length = o.1.length + 1) := ⟨(outB_len o.1 x).1, (outB_len o.1 x).2.1⟩
theorem pN_len (z : Int) (o : List Int × List Term) : o.1.length ≤ (pN z o).1.length := outN_ge z o.1
theorem pN_lt (z : Int) (o : List Int × List Term) (h : o.1.length < 400) : o.1.length < (pN z o).1.length := by
  show o.1.length < (outN z o.1).length
  unfold outN
  by_cases q : z < 0
  · rw [if_pos q, if_pos q]
    have := fold_ge (fun x : Int => 48 + x) (dgs 10 (-z)).reverse (outB o.1 45)
    have := (outB_len o.1 45).2.1 h
    omega
  · rw [if_neg q, if_neg q]
    rw [hdg_eq 9 z (by omega) (by decide)]
    have e : ∃ m x, hdg 9 z = m ++ [x] := ⟨_, z % 10, hdg_lo 8 z (by omega) (by decide)⟩
    obtain ⟨m, x, e⟩ := e
    rw [e, List.foldl_append]
    show o.1.length < (outB (m.foldl (fun o x => outB o (48 + x)) o.1) (48 + x)).length
    have h1 := fold_ge (fun x : Int => 48 + x) m o.1
    have h2 := outB_len (m.foldl (fun o x => outB o (48 + x)) o.1) (48 + x)
    by_cases q2 : (m.foldl (fun o x => outB o (48 + x)) o.1).length < 400
    · have := h2.2.1 q2; omega
    · omega
section
variable {iv : List (Int × Int)} {L : Nat} {h0 : MH} {A A' : Int → Nat} {P Q : Nat → Prop} {c c0 e f : SC} {s s' : SM} {t : Term} {d p a w n : Nat} {x z : Int} {V X Y E : Term} {o : List Int × List Term} {K : List (Int × Nat × Term)} {l : List (Int × Nat)}
theorem NDW.wx (h : NDW A c s) (hx : WX w c e) (hk : kl c w = 12) : NDW A e s := ⟨fun b b0 b1 => by
  obtain ⟨h1, h2, h3⟩ := h.1 b b0 b1
  have hn : A b ≠ w := fun q => by rw [q] at h1; omega
  exact ⟨(hx.2.1 _).1.trans h1, (hx.2.2.1 _ _ (fun q => hn q.1)).trans h2, (hx.2.2.1 _ _ (fun q => hn q.1)).trans h3⟩, h.2⟩
theorem later_n {k : Int} {F : SC → Prop} (hw : WRC c w) (ho : WO A P c w o) (hk : WK A P c w s K) (hq : -2147483647 ≤ k ∧ k ≤ 127) (hF : ∀ e K', WX w c e → WO A P e w o → WK A P e w s K' → (K.length < 2005 → K' = (k, 2, .null) :: K) → F e) : ck iv L h0 d 248 [vr w, vr 2, vi k] c (qv F) := later_w (q := (k, 2, .null)) hw ho hk (Or.inl ⟨rfl, rfl, hq⟩) hF
theorem later_v {x : Nat} {F : SC → Prop} (hw : WRC c w) (ho : WO A P c w o) (hk : WK A P c w s K) (hX : isV X = true ∧ VB s X) (hx : x ≠ 2 ∧ DV A c P X x []) (hF : ∀ e K', WX w c e → WO A P e w o → WK A P e w s K' → (K.length < 2005 → K' = (0, x, X) :: K) → F e) : ck iv L h0 d 248 [vr w, vr x, vi 0] c (qv F) := later_w (q := (0, x, X)) hw ho hk (Or.inr ⟨hX.1, hX.2, hx.1, hx.2⟩) hF
/-- what waits on one -/
theorem act_w {n : Nat} {F : SC → Prop} (hP : ∀ a, P a → a ≠ 2) (hw : WRC c w) (hN : NDW A c s) (ho : WO A P c w o) (hk : WK A P c w s K) (hl : o.1.length < 400 → K.length + 10 < 2005) (hV : VB s (.rem (.index n) (.elem X (.elem Y E)))) (hv : DV A c P (.rem (.index n) (.elem X (.elem Y E))) a []) (hF : ∀ e o' K', WX w c e → WO A P e w o' → WK A P e w s K' → OST (s.2 9) (.rem (.index n) (.elem X (.elem Y E))) o K o' K' → F e) : ck iv L h0 (d + 2) 253 [vr w, vr a] c (qv F) := by
  have hol := ho.1.1.2
  obtain ⟨⟨hn8, hXv, hXb⟩, hYc, -⟩ := hV
  have hYv : Y ≠ .null → isV Y = true ∧ VB s Y := fun q => hYc.resolve_right q
  have gN : ∀ {e : SC}, WX w c e → kl e (A n) = 5 ∧ fI e (A n) 0 = n ∧ fI e (A n) 1 = s.2 9 n := fun hx => (hN.wx hx hw.1.1).1 n (by omega) hn8
  -- the value's cell, whatever was written
  have cell : ∀ {e : SC}, WX w c e → kl e a = 10 ∧ fR e a 2 = A n ∧ (fR e a 3 ≠ 2 ∧ DV A e P X (fR e a 3) []) ∧ (Y = .null ↔ fR e a 4 = 2) ∧ (Y ≠ .null → DV A e P Y (fR e a 4) []) := fun hx => by
    obtain ⟨⟨⟨h1, h1'⟩, h2⟩, h2', h3, h4, h5, h5', h6⟩ := DV.wx hx hw.1.1 hv
    exact ⟨h1', h2', ⟨hP _ (DV_kind hXv h4).1.1, h4⟩, h5, h5'⟩
  have hg : ∀ z, gd o z = if o.1.length = 400 then o else z := fun z => rfl
  have eT : o.1.length < 400 → outT (s.2 9) (.rem (.index n) (.elem X (.elem Y E))) o = outZ (s.2 9 n) n (if isV Y = true then outT (s.2 9) Y (pB 32 (outT (s.2 9) X (pB 32 (pW (wrd (s.2 9 n)) (pB 40 o))))) else outT (s.2 9) X (pB 32 (pW (wrd (s.2 9 n)) (pB 40 o)))) := fun h => if_neg (by omega)
  refine C253 ⟨hw.1.1, add_c hw ho hk (by decide) (fun e1 x1 o1 s1 => ?_)⟩
  obtain ⟨c1, c2, -⟩ := cell x1
  have n1 := gN x1
  rw [c2, n1.2.2]
  refine ⟨c1, n1.1, word_c (fun tx htx hw1 hw2 => ⟨(hw.x x1).1.1, text_c htx (hw.x x1) o1 s1 (fun e2 x2 o2 s2 => ?_)⟩)⟩
  have x12 := x1.tr x2
  have hol2 : o.1.length < 400 → o.1.length + 1 < (pW tx (pB 40 o)).1.length ∨ (pW tx (pB 40 o)).1.length = 400 := fun h => by
    have h1 := (pB_len 40 o).2 h
    by_cases q : (pB 40 o).1.length < 400
    · have := hw2 _ q; omega
    · have h2 := outW_ge tx (pB 40 o).1
      have h3 : (pB 40 o).1.length ≤ (pW tx (pB 40 o)).1.length := h2
      have h4 := o2.1.1.2
      omega
  have full : o.1.length = 400 → pW tx (pB 40 o) = o := fun h => by rw [pB_full h, pW_full h]
  generalize ho2 : pW tx (pB 40 o) = o2' at *
  have eo2 : pW (wrd (s.2 9 n)) (pB 40 o) = o2' := by rw [← hw1, ho2]
  rw [eo2] at eT
  refine ⟨(hw.x x12).1.1, later_n (hw.x x12) o2 s2 (by decide) (fun e3 K3 x3 o3 s3 k3 => ?_)⟩
  have x13 := x12.tr x3
  obtain ⟨c1, c2, c3, c4, c5⟩ := cell x13
  have n1 := gN x13
  rw [c2, n1.2.2, n1.2.1]
  have fin : ∀ {e : SC} {K' : List (Int × Nat × Term)}, WX w c e → WO A P e w o2' → WK A P e w s K' → (o.1.length < 400 → runK (s.2 9) K' o2' = runK (s.2 9) K (outT (s.2 9) (.rem (.index n) (.elem X (.elem Y E))) o) ∧ K'.length ≤ K.length + 7) → F e := fun hx h1 h2 h3 => hF _ _ _ hx h1 h2 (OST_of hol full (fun h => by
    have := hol2 h
    have h4 := h1.1.1.2
    exact ⟨(h3 h).1, by omega, fun h5 => by have := (h3 h).2; omega⟩))
  refine ⟨c1, n1.1, fun so => ?_, fun so => ?_⟩
  · refine ⟨fun q => ⟨(hw.x x13).1.1, later_v (hw.x x13) o3 s3 ⟨hXv, hXb⟩ c3 (fun e4 K4 x4 o4 s4 k4 => ?_)⟩, fun q => ⟨(hw.x x13).1.1, ?_⟩⟩
    · have x14 := x13.tr x4
      refine ⟨(hw.x x14).1.1, later_n (hw.x x14) o4 s4 (by decide) (fun e5 K5 x5 o5 s5 k5 => ?_)⟩
      refine fin (x14.tr x5) o5 s5 (fun h => ?_)
      have hlk := hl h
      have k3 := k3 (by omega)
      subst k3
      have k4 := k4 (by simp; omega)
      subst k4
      have k5 := k5 (by simp; omega)
      subst k5
      rw [eT h, if_neg (by rw [c4.mpr q]; decide)]
      unfold outZ
      rw [if_neg so]
      simp only [runK_c, apK_c (show (0 : Int) ≤ 32 by decide), apK_c (show (0 : Int) ≤ 41 by decide), apK_v hXv]
      exact ⟨trivial, by simp⟩
    · have hYn : Y ≠ .null := fun w => q (c4.mp w)
      refine later_v (hw.x x13) o3 s3 (hYv hYn) ⟨q, c5 hYn⟩ (fun e4 K4 x4 o4 s4 k4 => ?_)
      have x14 := x13.tr x4
      refine ⟨(hw.x x14).1.1, later_n (hw.x x14) o4 s4 (by decide) (fun e5 K5 x5 o5 s5 k5 => ?_)⟩
      have x15 := x14.tr x5
      obtain ⟨d1, -, d3, -⟩ := cell x15
      refine ⟨d1, (hw.x x15).1.1, later_v (hw.x x15) o5 s5 ⟨hXv, hXb⟩ d3 (fun e6 K6 x6 o6 s6 k6 => ?_)⟩
      have x16 := x15.tr x6
      refine ⟨(hw.x x16).1.1, later_n (hw.x x16) o6 s6 (by decide) (fun e7 K7 x7 o7 s7 k7 => ?_)⟩
      refine fin (x16.tr x7) o7 s7 (fun h => ?_)
      have hlk := hl h
      have k3 := k3 (by omega)
      subst k3
      have k4 := k4 (by simp; omega)
      subst k4
      have k5 := k5 (by simp; omega)
      subst k5
      have k6 := k6 (by simp; omega)
      subst k6
      have k7 := k7 (by simp; omega)
      subst k7
      rw [eT h, if_pos (hYv hYn).1]
      unfold outZ
      rw [if_neg so]
      simp only [runK_c, apK_c (show (0 : Int) ≤ 32 by decide), apK_c (show (0 : Int) ≤ 41 by decide), apK_v hXv, apK_v (hYv hYn).1]
      exact ⟨trivial, by simp⟩
  · have h8 := hN.2
    have en : ¬ (0 : Int) ≤ -1 - (n : Int) := by omega
    have en2 : -1 - (-1 - (n : Int)) = n := by omega
    refine ⟨by omega, (hw.x x13).1.1, later_n (hw.x x13) o3 s3 (by omega) (fun e4 K4 x4 o4 s4 k4 => ?_)⟩
    have x14 := x13.tr x4
    refine ⟨(hw.x x14).1.1, later_n (hw.x x14) o4 s4 (by decide) (fun e5 K5 x5 o5 s5 k5 => ?_)⟩
    have x15 := x14.tr x5
    obtain ⟨d1, d2, d3, d4, d5⟩ := cell x15
    refine ⟨d1, fun q => ⟨(hw.x x15).1.1, later_v (hw.x x15) o5 s5 ⟨hXv, hXb⟩ d3 (fun e6 K6 x6 o6 s6 k6 => ?_)⟩, fun q => ⟨(hw.x x15).1.1, ?_⟩⟩
    · have x16 := x15.tr x6
      refine ⟨(hw.x x16).1.1, later_n (hw.x x16) o6 s6 (by decide) (fun e7 K7 x7 o7 s7 k7 => ?_)⟩
      refine fin (x16.tr x7) o7 s7 (fun h => ?_)
      have hlk := hl h
      have k3 := k3 (by omega)
      subst k3
      have k4 := k4 (by simp; omega)
      subst k4
      have k5 := k5 (by simp; omega)
      subst k5
      have k6 := k6 (by simp; omega)
      subst k6
      have k7 := k7 (by simp; omega)
      subst k7
      rw [eT h, if_neg (by rw [d4.mpr q]; decide)]
      unfold outZ
      rw [if_pos so]
      simp only [runK_c, apK_c (show (0 : Int) ≤ 32 by decide), apK_c (show (0 : Int) ≤ 41 by decide), apK_v hXv, apK_n en, en2]
      exact ⟨trivial, by simp⟩
    · have hYn : Y ≠ .null := fun w => q (d4.mp w)
      refine later_v (hw.x x15) o5 s5 (hYv hYn) ⟨q, d5 hYn⟩ (fun e6 K6 x6 o6 s6 k6 => ?_)
      have x16 := x15.tr x6
      refine ⟨(hw.x x16).1.1, later_n (hw.x x16) o6 s6 (by decide) (fun e7 K7 x7 o7 s7 k7 => ?_)⟩
      have x17 := x16.tr x7
      obtain ⟨f1, -, f3, -⟩ := cell x17
      refine ⟨f1, (hw.x x17).1.1, later_v (hw.x x17) o7 s7 ⟨hXv, hXb⟩ f3 (fun e8 K8 x8 o8 s8 k8 => ?_)⟩
      have x18 := x17.tr x8
      refine ⟨(hw.x x18).1.1, later_n (hw.x x18) o8 s8 (by decide) (fun e9 K9 x9 o9 s9 k9 => ?_)⟩
      refine fin (x18.tr x9) o9 s9 (fun h => ?_)
      have hlk := hl h
      have k3 := k3 (by omega)
      subst k3
      have k4 := k4 (by simp; omega)
      subst k4
      have k5 := k5 (by simp; omega)
      subst k5
      have k6 := k6 (by simp; omega)
      subst k6
      have k7 := k7 (by simp; omega)
      subst k7
      have k8 := k8 (by simp; omega)
      subst k8
      have k9 := k9 (by simp; omega)
      subst k9
      rw [eT h, if_pos (hYv hYn).1]
      unfold outZ
      rw [if_pos so]
      simp only [runK_c, apK_c (show (0 : Int) ≤ 32 by decide), apK_c (show (0 : Int) ≤ 41 by decide), apK_v hXv, apK_v (hYv hYn).1, apK_n en, en2]
      exact ⟨trivial, by simp⟩
end
