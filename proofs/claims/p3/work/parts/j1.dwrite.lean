/-! Writing by the desk: bytes, numbers, words, what is written later. -/
/-- the same but for a writer's own -/
def WX (w : Nat) (c e : SC) : Prop := (nxt e = nxt c ∧ slo e = slo c) ∧ (∀ a, kl e a = kl c a ∧ le e a = le c a) ∧ (∀ a y, ¬ (a = w ∧ (y = 1 ∨ y = 3 ∨ y = 6)) → fI e a y = fI c a y) ∧ (∀ a y, fR e a y = fR c a y) ∧ ∀ a, ¬ (w < a ∧ a ≤ w + 4) → aI e a = aI c a ∧ aR e a = aR c a
theorem WX.rf {w : Nat} {c : SC} : WX w c c := ⟨⟨rfl, rfl⟩, fun _ => ⟨rfl, rfl⟩, fun _ _ _ => rfl, fun _ _ => rfl, fun _ _ => ⟨rfl, rfl⟩⟩
theorem WX.tr {w : Nat} {c e f : SC} (h1 : WX w c e) (h2 : WX w e f) : WX w c f := by
  obtain ⟨⟨a1, a2⟩, a3, a4, a5, a6⟩ := h1
  obtain ⟨⟨b1, b2⟩, b3, b4, b5, b6⟩ := h2
  exact ⟨⟨b1.trans a1, b2.trans a2⟩, fun a => ⟨(b3 a).1.trans (a3 a).1, (b3 a).2.trans (a3 a).2⟩, fun a y h => (b4 a y h).trans (a4 a y h), fun a y => (b5 a y).trans (a5 a y), fun a h => ⟨(b6 a h).1.trans (a6 a h).1, (b6 a h).2.trans (a6 a h).2⟩⟩
theorem WX.uI {w y : Nat} {z : Int} {c e : SC} (h : WX w c e) (hy : y = 1 ∨ y = 3 ∨ y = 6) : WX w c (uI e w y z) := by
  obtain ⟨a1, a3, a4, a5, a6⟩ := h
  refine ⟨a1, a3, fun a k hk => ?_, a5, a6⟩
  rw [fI_uI, if_neg (fun q => hk ⟨q.2, by rw [q.1]; exact hy⟩)]
  exact a4 a k hk
theorem WX.uA {w r : Nat} {i z : Int} {c e : SC} (h : WX w c e) (hr : w < r ∧ r ≤ w + 4) : WX w c (uA e r i z) := by
  obtain ⟨a1, a3, a4, a5, a6⟩ := h
  refine ⟨a1, a3, a4, a5, fun a ha => ⟨?_, (a6 a ha).2⟩⟩
  funext k
  rw [aI_uA, if_neg (fun q => ha (by rw [q.1]; exact hr)), (a6 a ha).1]
theorem WX.uB {w r : Nat} {i : Int} {z : Nat} {c e : SC} (h : WX w c e) (hr : w < r ∧ r ≤ w + 4) : WX w c (uB e r i z) := by
  obtain ⟨a1, a3, a4, a5, a6⟩ := h
  refine ⟨a1, a3, a4, a5, fun a ha => ⟨(a6 a ha).1, ?_⟩⟩
  funext k
  rw [aR_uB, if_neg (fun q => ha (by rw [q.1]; exact hr)), (a6 a ha).2]
/-- a writer's cells -/
def WRC (c : SC) (w : Nat) : Prop := (kl c w = 12 ∧ fR c w 0 = w + 1 ∧ fR c w 2 = w + 2 ∧ fR c w 4 = w + 3 ∧ fR c w 5 = w + 4) ∧ (kl c (w + 1) = 106 ∧ kl c (w + 2) = 100 ∧ kl c (w + 3) = 106 ∧ kl c (w + 4) = 100) ∧ le c (w + 1) = 400 ∧ le c (w + 2) = 400 ∧ le c (w + 3) = 2005 ∧ le c (w + 4) = 2005
theorem FIX.wrc {c : SC} (h : FIX c) : WRC c 183 ∧ WRC c 188 := by
  unfold WRC
  simp only [h.1, Nat.reduceAdd]
  simp
theorem WRC.x {c e : SC} {w : Nat} (h : WRC c w) (hx : WX w c e) : WRC e w := by
  obtain ⟨-, a3, -, a5, -⟩ := hx
  unfold WRC at h ⊢
  simp only [fun a => (a3 a).1, fun a => (a3 a).2, a5]
  exact h
/-- what is written: bytes, holes -/
def WO (A : Int → Nat) (P : Nat → Prop) (c : SC) (w : Nat) (o : List Int × List Term) : Prop := ((fI c w 3 = o.1.length ∧ o.1.length ≤ 400) ∧ ∀ (k : Nat) (x : Int), o.1[k]? = some x → aI c (w + 2) k = x) ∧ (fI c w 1 = o.2.length ∧ o.2.length ≤ o.1.length) ∧ ∀ (k : Nat) (V : Term), o.2[k]? = some V → DV A c P V (aR c (w + 1) k) [] ∧ isW V = true
/-- what is to be written later, the next first: a letter or a number, or a value in its cell -/
def WK (A : Int → Nat) (P : Nat → Prop) (c : SC) (w : Nat) (s : SM) (K : List (Int × Nat × Term)) : Prop := (fI c w 6 = K.length ∧ K.length ≤ 2005) ∧ ∀ (k : Nat) (q : Int × Nat × Term), K.reverse[k]? = some q → aR c (w + 3) k = q.2.1 ∧ ((q.2.2 = .null ∧ q.2.1 = 2 ∧ aI c (w + 4) k = q.1 ∧ -2147483647 ≤ q.1 ∧ q.1 ≤ 127) ∨ (isV q.2.2 = true ∧ VB s q.2.2 ∧ q.2.1 ≠ 2 ∧ DV A c P q.2.2 q.2.1 []))
section
variable {iv : List (Int × Int)} {L : Nat} {h0 : MH} {A A' : Int → Nat} {P Q : Nat → Prop} {c c0 e f : SC} {s s' : SM} {t : Term} {d p a w n : Nat} {x z : Int} {V : Term} {o : List Int × List Term} {K : List (Int × Nat × Term)} {l : List (Int × Nat)}
theorem WX.sty (h : WX w c e) (hk : kl c w = 12) : STY P P c e := fun a ha => ⟨ha, fun q => ⟨(h.2.1 a).1, fun y _ => ⟨h.2.2.1 a y (fun r => by rw [r.1] at q; omega), h.2.2.2.1 a y⟩⟩⟩
theorem DV.wx (h : WX w c e) (hk : kl c w = 12) {V : Term} {a : Nat} (hd : DV A c P V a []) : DV A e P V a [] := DV_up (h.sty hk) _ V a [] (Nat.lt_succ_self _) hd
/-- one byte more -/
theorem add_c {F : SC → Prop} (hw : WRC c w) (ho : WO A P c w o) (hk : WK A P c w s K) (hx : -128 ≤ x ∧ x ≤ 127) (hF : ∀ e, WX w c e → WO A P e w (pB x o) → WK A P e w s K → F e) : ck iv L h0 d 249 [vr w, vi x] c (qv F) := by
  obtain ⟨⟨k1, k2, k3, k4, k5⟩, ⟨k6, k7, k8, k9⟩, k10, k11, k12, k13⟩ := id hw
  obtain ⟨⟨⟨o1, o2⟩, o3⟩, ⟨o4, o5⟩, o6⟩ := id ho
  refine C249 ⟨k1, fun q => hF c WX.rf ?_ hk, fun q => ?_⟩
  · unfold pB outB
    rw [if_pos (by omega)]
    exact ho
  · rw [k3]
    have hX : WX w c (uA (uI c w 3 (fI c w 3 + 1)) (w + 2) (fI c w 3) x) := (WX.rf.uI (Or.inr (Or.inl rfl))).uA ⟨by omega, by omega⟩
    have el : (outB o.1 x).length = o.1.length + 1 := (outB_len o.1 x).2.1 (by omega)
    refine ⟨by omega, k7, by omega, hF _ hX ⟨⟨⟨?_, ?_⟩, fun k y hy => ?_⟩, ⟨?_, ?_⟩, fun k V hV => ?_⟩ ⟨⟨?_, hk.1.2⟩, fun k q hq => ?_⟩⟩
    · show fI (uI c w 3 (fI c w 3 + 1)) w 3 = _
      rw [fI_uI, if_pos ⟨rfl, rfl⟩]
      show _ = ((outB o.1 x).length : Int)
      omega
    · show (outB o.1 x).length ≤ 400
      omega
    · have hy : (outB o.1 x)[k]? = some y := hy
      unfold outB at hy
      rw [if_neg (by omega), w8_id hx.1 hx.2] at hy
      show (if w + 2 = w + 2 ∧ (k : Int) = fI c w 3 then x else aI c (w + 2) k) = y
      rcases app_at hy with hy | ⟨rfl, rfl⟩
      · have := (List.getElem?_eq_some_iff.mp hy).1
        rw [if_neg (by omega)]
        exact o3 k y hy
      · rw [if_pos ⟨rfl, by omega⟩]
    · show fI (uI c w 3 (fI c w 3 + 1)) w 1 = _
      rw [fI_uI, if_neg (by omega)]
      exact o4
    · show o.2.length ≤ (outB o.1 x).length
      omega
    · exact ⟨DV.wx hX k1 (o6 k V hV).1, (o6 k V hV).2⟩
    · show fI (uI c w 3 (fI c w 3 + 1)) w 6 = _
      rw [fI_uI, if_neg (by omega)]
      exact hk.1.1
    · obtain ⟨q1, q2⟩ := hk.2 k q hq
      refine ⟨q1, q2.imp (fun z => ⟨z.1, z.2.1, ?_, z.2.2.2⟩) (fun z => ⟨z.1, z.2.1, z.2.2.1, DV.wx hX k1 z.2.2.2⟩)⟩
      rw [aI_uA, if_neg (by omega)]
      exact z.2.2.1
/-- one thing more to be written later -/
theorem later_c {q : Int × Nat × Term} {F : SC → Prop} (hw : WRC c w) (ho : WO A P c w o) (hk : WK A P c w s K) (hl : K.length < 2005) (hq : (q.2.2 = .null ∧ q.2.1 = 2 ∧ -2147483647 ≤ q.1 ∧ q.1 ≤ 127) ∨ (isV q.2.2 = true ∧ VB s q.2.2 ∧ q.2.1 ≠ 2 ∧ DV A c P q.2.2 q.2.1 [])) (hF : ∀ e, WX w c e → WO A P e w o → WK A P e w s (q :: K) → F e) : ck iv L h0 d 248 [vr w, vr q.2.1, vi q.1] c (qv F) := by
  obtain ⟨⟨k1, k2, k3, k4, k5⟩, ⟨k6, k7, k8, k9⟩, k10, k11, k12, k13⟩ := id hw
  obtain ⟨⟨⟨o1, o2⟩, o3⟩, ⟨o4, o5⟩, o6⟩ := id ho
  obtain ⟨⟨h1, h2⟩, h3⟩ := id hk
  have kc : q.2.1 = 2 ∨ kl c q.2.1 = 10 := hq.imp (fun z => z.2.1) (fun z => (DV_kind z.1 z.2.2.2).1.2)
  refine C248 ⟨k1, fun r => by omega, fun r => ?_⟩
  rw [k4, k5]
  have hX : WX w c (uI (uA (uB c (w + 3) (fI c w 6) q.2.1) (w + 4) (fI c w 6) q.1) w 6 (fI c w 6 + 1)) := ((WX.rf.uB ⟨by omega, by omega⟩).uA ⟨by omega, by omega⟩).uI (Or.inr (Or.inr rfl))
  refine ⟨k8, by omega, kc, k9, by omega, by omega, hF _ hX ⟨⟨⟨?_, o2⟩, fun k y hy => ?_⟩, ⟨?_, o5⟩, fun k V hV => ?_⟩ ⟨⟨?_, ?_⟩, fun k y hy => ?_⟩⟩
  · rw [fI_uI, if_neg (by omega)]; exact o1
  · rw [aI_uI, aI_uA, if_neg (by omega)]; exact o3 k y hy
  · rw [fI_uI, if_neg (by omega)]; exact o4
  · refine ⟨?_, (o6 k V hV).2⟩
    rw [aR_uI, aR_uA, aR_uB, if_neg (by omega)]
    exact DV.wx hX k1 (o6 k V hV).1
  · rw [fI_uI, if_pos ⟨rfl, rfl⟩]
    simp; omega
  · simp; omega
  · rw [List.reverse_cons] at hy
    have e3 : ∀ k : Int, aR (uI (uA (uB c (w + 3) (fI c w 6) q.2.1) (w + 4) (fI c w 6) q.1) w 6 (fI c w 6 + 1)) (w + 3) k = if k = fI c w 6 then q.2.1 else aR c (w + 3) k := fun k => by rw [aR_uI, aR_uA, aR_uB]; simp
    have e4 : ∀ k : Int, aI (uI (uA (uB c (w + 3) (fI c w 6) q.2.1) (w + 4) (fI c w 6) q.1) w 6 (fI c w 6 + 1)) (w + 4) k = if k = fI c w 6 then q.1 else aI c (w + 4) k := fun k => by rw [aI_uI, aI_uA, aI_uB]; simp
    rw [e3, e4]
    rcases app_at hy with hy | ⟨rfl, rfl⟩
    · have hl2 := (List.getElem?_eq_some_iff.mp hy).1
      rw [List.length_reverse] at hl2
      rw [if_neg (by omega), if_neg (by omega)]
      obtain ⟨q1, q2⟩ := h3 k y hy
      exact ⟨q1, q2.imp (fun z => z) (fun z => ⟨z.1, z.2.1, z.2.2.1, DV.wx hX k1 z.2.2.2⟩)⟩
    · rw [List.length_reverse, if_pos (by omega), if_pos (by omega)]
      exact ⟨rfl, hq.imp (fun z => ⟨z.1, z.2.1, rfl, z.2.2⟩) (fun z => ⟨z.1, z.2.1, z.2.2.1, DV.wx hX k1 z.2.2.2⟩)⟩
/-- digits, the highest first -/
def hdg : Nat → Int → List Int
  | 0, z => [z % 10]
  | k + 1, z => (if z < p10 (k + 1) then [] else [z / p10 (k + 1) % 10]) ++ hdg k z
theorem hdg_lo : ∀ (k : Nat) (z : Int), 0 ≤ z → k ≤ 8 → hdg (k + 1) z = (if 0 < z / 10 then hdg k (z / 10) else []) ++ [z % 10] := by
  intro k
  induction k with
  | zero =>
    intro z hz _
    show (if z < p10 1 then [] else [z / p10 1 % 10]) ++ [z % 10] = _
    rw [show p10 1 = 10 by decide]
    by_cases q : z < 10
    · rw [if_pos q, if_neg (by omega)]
    · rw [if_neg q, if_pos (by omega)]; rfl
  | succ k ih =>
    intro z hz hk
    have hp := p10_le (k + 1) (by omega)
    have e : p10 (k + 1 + 1) = 10 * p10 (k + 1) := rfl
    show (if z < p10 (k + 1 + 1) then [] else [z / p10 (k + 1 + 1) % 10]) ++ hdg (k + 1) z = (if 0 < z / 10 then (if z / 10 < p10 (k + 1) then [] else [z / 10 / p10 (k + 1) % 10]) ++ hdg k (z / 10) else []) ++ [z % 10]
    rw [ih z hz (by omega), e]
    generalize p10 (k + 1) = m at *
    have ed : z / 10 / m = z / (10 * m) := by
      obtain ⟨n, rfl⟩ := Int.eq_ofNat_of_zero_le hz
      obtain ⟨j, rfl⟩ := Int.eq_ofNat_of_zero_le (show 0 ≤ m by omega)
      have := Nat.div_div_eq_div_mul n 10 j
      exact_mod_cast this
    rw [ed]
    by_cases q0 : 0 < z / 10
    · rw [if_pos q0, if_pos q0]
      by_cases q : z < 10 * m
      · rw [if_pos q, if_pos (by omega)]; simp
      · rw [if_neg q, if_neg (by omega)]; simp
    · rw [if_neg q0, if_neg q0, if_pos (by omega)]
      simp
theorem hdg_eq : ∀ (k : Nat) (z : Int), 0 ≤ z → k ≤ 9 → (dgs (k + 1) z).reverse = hdg k z := by
  intro k
  induction k with
  | zero =>
    intro z hz _
    show (z % 10 :: (if 0 < z / 10 then dgs 0 (z / 10) else [])).reverse = [z % 10]
    have : (if 0 < z / 10 then dgs 0 (z / 10) else []) = [] := by split <;> rfl
    rw [this]; rfl
  | succ k ih =>
    intro z hz hk
    rw [hdg_lo k z hz (by omega), ← ih (z / 10) (by omega) (by omega)]
    show (z % 10 :: (if 0 < z / 10 then dgs (k + 1) (z / 10) else [])).reverse = _
    rw [List.reverse_cons]
    by_cases q : 0 < z / 10
    · rw [if_pos q, if_pos q]
    · rw [if_neg q, if_neg q]; rfl
theorem dgts_c {F : SC → Prop} : ∀ (k : Nat) (c : SC) (o : List Int × List Term), k ≤ 9 → 0 ≤ z → z ≤ 2147483648 → WRC c w → WO A P c w o → WK A P c w s K → (∀ e, WX w c e → WO A P e w ((hdg k z).foldl (fun o x => outB o (48 + x)) o.1, o.2) → WK A P e w s K → F e) → wk iv L h0 (d + 1) 251 23 [lr w, ln, ll z, ln, ll (p10 k)] [] c (qv F) := by
  have dgt : ∀ m : Int, 0 ≤ m → w32 (48 + (m.tdiv 1 - (m.tdiv 1).tdiv 10 * 10)) = w32 (48 + (m.tdiv 1 - (m.tdiv 1).tdiv 10 * 10)) := fun _ _ => rfl
  have dg1 : ∀ m : Int, 0 ≤ m → w32 (48 + (m - m.tdiv 10 * 10)) = 48 + m % 10 := fun m hm => by
    rw [Int.tdiv_eq_ediv_of_nonneg hm, w32_id (by unfold inR; omega)]; omega
  intro k
  induction k with
  | zero =>
    intro c o _ z0 z1 hw ho hk hF
    have e0 : p10 0 = 1 := rfl
    rw [e0]
    have c1 : lcp 1 0 = 1 := by decide
    have c2 : lcp 1 1 = 0 := by decide
    refine C251_23 ⟨by unfold inL; omega, by unfold inL; omega, fun q => by omega, fun _ => ⟨by unfold inL; omega, fun _ => ?_, fun q => absurd c2 q⟩⟩
    rw [Int.tdiv_one, dg1 z z0]
    have et : z.tdiv 10 = z / 10 := Int.tdiv_eq_ediv_of_nonneg z0
    refine ⟨by unfold inL; omega, by decide, by unfold inL; omega, by unfold inL; omega, by rw [et]; unfold inL; omega, hw.1.1, ?_⟩
    refine add_c hw ho hk (by omega) (fun e h1 h2 h3 => ⟨by unfold inL; decide, ?_⟩)
    have c3 : (1 : Int).tdiv 10 = 0 := by decide
    rw [c3]
    have c4 : lcp 0 0 = 0 := by decide
    exact C251_23 ⟨by unfold inL; omega, by unfold inL; omega, fun _ => hF e h1 h2 h3, fun q => by omega⟩
  | succ k ih =>
    intro c o hk9 z0 z1 hw ho hk hF
    have hp := p10_le (k + 1) (by omega)
    have hp' := p10_le k (by omega)
    have e0 : p10 (k + 1) = 10 * p10 k := rfl
    have eh : hdg (k + 1) z = (if z < p10 (k + 1) then [] else [z / p10 (k + 1) % 10]) ++ hdg k z := rfl
    have et : (p10 (k + 1)).tdiv 10 = p10 k := by rw [Int.tdiv_eq_ediv_of_nonneg (by omega)]; omega
    have c1 : lcp (p10 (k + 1)) 0 = 1 := by unfold lcp; rw [if_pos (by omega)]
    have c2 : lcp (p10 (k + 1)) 1 = 1 := by unfold lcp; rw [if_pos (by omega)]
    rw [eh] at hF
    generalize p10 (k + 1) = m at *
    refine C251_23 ⟨by unfold inL; omega, by unfold inL; omega, fun q => by omega, fun _ => ⟨by unfold inL; omega, fun q => by omega, fun _ => ⟨by unfold inL; omega, fun q => ?_, fun q => ?_⟩⟩⟩
    · have q1 : z < m := by
        unfold lcp at q
        split at q
        · omega
        · split at q <;> omega
      rw [if_pos q1, List.nil_append] at hF
      rw [et]
      exact ⟨by unfold inL; omega, by unfold inL; omega, ih c o (by omega) z0 z1 hw ho hk hF⟩
    · have q1 : ¬ z < m := by
        unfold lcp at q
        intro q1
        rw [if_neg (by omega), if_neg (by omega)] at q
        omega
      rw [if_neg q1] at hF
      have ed : z.tdiv m = z / m := Int.tdiv_eq_ediv_of_nonneg z0
      have hdv : 0 ≤ z / m := Int.ediv_nonneg z0 (by omega)
      have hdl : z / m ≤ z := Int.ediv_le_self m z0
      have et2 : (z / m).tdiv 10 = z / m / 10 := Int.tdiv_eq_ediv_of_nonneg hdv
      rw [ed, dg1 _ hdv, et]
      refine ⟨by omega, by unfold inL; omega, by unfold inL; omega, by rw [et2]; unfold inL; omega, hw.1.1, ?_⟩
      refine add_c hw ho hk (by omega) (fun e h1 h2 h3 => ⟨by unfold inL; omega, ?_⟩)
      exact ih e _ (by omega) z0 z1 (hw.x h1) h2 h3 (fun f f1 f2 f3 => hF f (h1.tr f1) f2 f3)
theorem num_c {F : SC → Prop} (hw : WRC c w) (ho : WO A P c w o) (hk : WK A P c w s K) (hz : -2147483648 ≤ z ∧ z ≤ 2147483647) (hF : ∀ e, WX w c e → WO A P e w (pN z o) → WK A P e w s K → F e) : ck iv L h0 (d + 1) 251 [vr w, vi z] c (qv F) := by
  have c9 : p10 9 = 1000000000 := by decide
  have lz : lcp z 0 < 0 ↔ z < 0 := by
    unfold lcp
    split
    · omega
    · split <;> omega
  refine C251 ⟨by unfold inL; omega, by unfold inL; omega, fun q => ?_, fun q => ⟨hw.1.1, ?_⟩⟩
  · have q0 : ¬ z < 0 := fun w => by have := lz.mpr w; omega
    have := dgts_c (iv := iv) (L := L) (h0 := h0) (d := d) (z := z) (F := F) 9 c o (Nat.le_refl _) (by omega) (by omega) hw ho hk (fun e h1 h2 h3 => hF e h1 ?_ h3)
    · rw [c9] at this; exact this
    · rw [← hdg_eq 9 z (by omega) (Nat.le_refl _)] at h2
      unfold pN outN
      rw [if_neg q0, if_neg q0]
      exact h2
  · have q0 : z < 0 := lz.mp q
    refine add_c hw ho hk (by decide) (fun e h1 h2 h3 => ?_)
    have := dgts_c (iv := iv) (L := L) (h0 := h0) (d := d) (z := -z) (F := F) 9 e _ (Nat.le_refl _) (by omega) (by omega) (hw.x h1) h2 h3 (fun f f1 f2 f3 => hF f (h1.tr f1) ?_ f3)
    · rw [c9] at this; exact this
    · rw [← hdg_eq 9 (-z) (by omega) (Nat.le_refl _)] at f2
      unfold pN outN
      rw [if_pos q0, if_pos q0]
      exact f2
end
