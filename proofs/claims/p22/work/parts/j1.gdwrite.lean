section
/-! Writing by the desk: bytes, numbers, words, what is written later. -/
/-- the same but for a writer's own -/
def WX (w : Nat) (c e : SC) : Prop := (nxt e = nxt c ∧ slo e = slo c) ∧ (∀ a, kl e a = kl c a ∧ le e a = le c a) ∧ (∀ a y, ¬ (a = w ∧ (y = 1 ∨ y = 3 ∨ y = 6)) → fI e a y = fI c a y) ∧ (∀ a y, fR e a y = fR c a y) ∧ ∀ a, ¬ (w < a ∧ a ≤ w + 4) → aI e a = aI c a ∧ aR e a = aR c a
theorem WX.rf {w : Nat} {c : SC} : WX w c c := ⟨⟨rfl, rfl⟩, fun _ => ⟨rfl, rfl⟩, fun _ _ _ => rfl, fun _ _ => rfl, fun _ _ => ⟨rfl, rfl⟩⟩
theorem WX.tr {w : Nat} {c e f : SC} (h1 : WX w c e) (h2 : WX w e f) : WX w c f := by
  obtain ⟨⟨a1, a2⟩, a3, a4, a5, a6⟩ := h1
  obtain ⟨⟨b1, b2⟩, b3, b4, b5, b6⟩ := h2
  exact ⟨⟨b1.trans a1, b2.trans a2⟩, fun a => ⟨(b3 a).1.trans (a3 a).1, (b3 a).2.trans (a3 a).2⟩, fun a y h => (b4 a y h).trans (a4 a y h), fun a y => (b5 a y).trans (a5 a y), fun a h => ⟨(b6 a h).1.trans (a6 a h).1, (b6 a h).2.trans (a6 a h).2⟩⟩
theorem WX.uI {w y : Nat} {z : Int} {c e : SC} (h : WX w c e) (hy : y = 1 ∨ y = 3 ∨ y = 6) : WX w c (uI e w y z) := by
  obtain ⟨a1, a3, a4, a5, a6⟩ := h
  refine ⟨a1, a3, fun a k hk => ?_, a5, a6⟩
  rw [fI_uI, if_neg (fun q => hk ⟨q.2, by rw [q.1]; exact hy⟩)]
  exact a4 a k hk
theorem WX.uA {w r : Nat} {i z : Int} {c e : SC} (h : WX w c e) (hr : w < r ∧ r ≤ w + 4) : WX w c (uA e r i z) := by
  obtain ⟨a1, a3, a4, a5, a6⟩ := h
  refine ⟨a1, a3, a4, a5, fun a ha => ⟨?_, (a6 a ha).2⟩⟩
  funext k
  rw [aI_uA, if_neg (fun q => ha (by rw [q.1]; exact hr)), (a6 a ha).1]
theorem WX.uB {w r : Nat} {i : Int} {z : Nat} {c e : SC} (h : WX w c e) (hr : w < r ∧ r ≤ w + 4) : WX w c (uB e r i z) := by
  obtain ⟨a1, a3, a4, a5, a6⟩ := h
  refine ⟨a1, a3, a4, a5, fun a ha => ⟨(a6 a ha).1, ?_⟩⟩
  funext k
  rw [aR_uB, if_neg (fun q => ha (by rw [q.1]; exact hr)), (a6 a ha).2]
/-- a writer's cells -/
def WRC (c : SC) (w : Nat) : Prop := (kl c w = 12 ∧ fR c w 0 = w + 1 ∧ fR c w 2 = w + 2 ∧ fR c w 4 = w + 3 ∧ fR c w 5 = w + 4) ∧ (kl c (w + 1) = 106 ∧ kl c (w + 2) = 100 ∧ kl c (w + 3) = 106 ∧ kl c (w + 4) = 100) ∧ le c (w + 1) = 400 ∧ le c (w + 2) = 400 ∧ le c (w + 3) = 2005 ∧ le c (w + 4) = 2005
theorem FIX.wrc {c : SC} (h : FIX c) : WRC c 183 ∧ WRC c 188 := by
  unfold WRC
  simp only [h.1, Nat.reduceAdd]
  simp
theorem WRC.x {c e : SC} {w : Nat} (h : WRC c w) (hx : WX w c e) : WRC e w := by
  obtain ⟨-, a3, -, a5, -⟩ := hx
  unfold WRC at h ⊢
  simp only [fun a => (a3 a).1, fun a => (a3 a).2, a5]
  exact h
/-- what is written: bytes, holes -/
def WO (A : Int → Nat) (P : Nat → Prop) (c : SC) (w : Nat) (o : List Int × List Term) : Prop := ((fI c w 3 = o.1.length ∧ o.1.length ≤ 400) ∧ ∀ (k : Nat) (x : Int), o.1[k]? = some x → aI c (w + 2) k = x) ∧ (fI c w 1 = o.2.length ∧ o.2.length ≤ o.1.length) ∧ ∀ (k : Nat) (V : Term), o.2[k]? = some V → DV A c P V (aR c (w + 1) k) [] ∧ isW V = true
/-- what is to be written later, the next first: a letter or a number, or a value in its cell -/
def WK (A : Int → Nat) (P : Nat → Prop) (c : SC) (w : Nat) (s : SM) (K : List (Int × Nat × Term)) : Prop := (fI c w 6 = K.length ∧ K.length ≤ 2005) ∧ ∀ (k : Nat) (q : Int × Nat × Term), K.reverse[k]? = some q → aR c (w + 3) k = q.2.1 ∧ ((q.2.2 = .null ∧ q.2.1 = 2 ∧ aI c (w + 4) k = q.1 ∧ -2147483647 ≤ q.1 ∧ q.1 ≤ 127) ∨ (isV q.2.2 = true ∧ VB s q.2.2 ∧ q.2.1 ≠ 2 ∧ DV A c P q.2.2 q.2.1 []))
section
variable {iv : List (Int × Int)} {L : Nat} {h0 : MH} {A A' : Int → Nat} {P Q : Nat → Prop} {c c0 e f : SC} {s s' : SM} {t : Term} {d p a w n : Nat} {x z : Int} {V : Term} {o : List Int × List Term} {K : List (Int × Nat × Term)} {l : List (Int × Nat)}
theorem WX.sty (h : WX w c e) (hk : kl c w = 12) : STY P P c e := fun a ha => ⟨ha, fun q => ⟨(h.2.1 a).1, fun y _ => ⟨h.2.2.1 a y (fun r => by rw [r.1] at q; omega), h.2.2.2.1 a y⟩⟩⟩
theorem DV.wx (h : WX w c e) (hk : kl c w = 12) {V : Term} {a : Nat} (hd : DV A c P V a []) : DV A e P V a [] := DV_up (h.sty hk) _ V a [] (Nat.lt_succ_self _) hd
/-- one byte more -/
theorem add_c {F : SC → Prop} (hw : WRC c w) (ho : WO A P c w o) (hk : WK A P c w s K) (hx : -128 ≤ x ∧ x ≤ 127) (hF : ∀ e, WX w c e → WO A P e w (pB x o) → WK A P e w s K → F e) : ck iv L h0 d 249 [vr w, vi x] c (qv F) := by
  obtain ⟨⟨k1, k2, k3, k4, k5⟩, ⟨k6, k7, k8, k9⟩, k10, k11, k12, k13⟩ := id hw
  obtain ⟨⟨⟨o1, o2⟩, o3⟩, ⟨o4, o5⟩, o6⟩ := id ho
  refine C249 ⟨k1, fun q => hF c WX.rf ?_ hk, fun q => ?_⟩
  · unfold pB outB
    rw [if_pos (by omega)]
    exact ho
  · rw [k3]
    have hX : WX w c (uA (uI c w 3 (fI c w 3 + 1)) (w + 2) (fI c w 3) x) := (WX.rf.uI (Or.inr (Or.inl rfl))).uA ⟨by omega, by omega⟩
    have el : (outB o.1 x).length = o.1.length + 1 := (outB_len o.1 x).2.1 (by omega)
    refine ⟨by omega, k7, by omega, hF _ hX ⟨⟨⟨?_, ?_⟩, fun k y hy => ?_⟩, ⟨?_, ?_⟩, fun k V hV => ?_⟩ ⟨⟨?_, hk.1.2⟩, fun k q hq => ?_⟩⟩
    · show fI (uI c w 3 (fI c w 3 + 1)) w 3 = _
      rw [fI_uI, if_pos ⟨rfl, rfl⟩]
      show _ = ((outB o.1 x).length : Int)
      omega
    · show (outB o.1 x).length ≤ 400
      omega
    · have hy : (outB o.1 x)[k]? = some y := hy
      unfold outB at hy
      rw [if_neg (by omega), w8_id hx.1 hx.2] at hy
      show (if w + 2 = w + 2 ∧ (k : Int) = fI c w 3 then x else aI c (w + 2) k) = y
      rcases app_at hy with hy | ⟨rfl, rfl⟩
      · have := (List.getElem?_eq_some_iff.mp hy).1
        rw [if_neg (by omega)]
        exact o3 k y hy
      · rw [if_pos ⟨rfl, by omega⟩]
    · show fI (uI c w 3 (fI c w 3 + 1)) w 1 = _
      rw [fI_uI, if_neg (by omega)]
      exact o4
    · show o.2.length ≤ (outB o.1 x).length
      omega
    · exact ⟨DV.wx hX k1 (o6 k V hV).1, (o6 k V hV).2⟩
    · show fI (uI c w 3 (fI c w 3 + 1)) w 6 = _
      rw [fI_uI, if_neg (by omega)]
      exact hk.1.1
    · obtain ⟨q1, q2⟩ := hk.2 k q hq
      refine ⟨q1, q2.imp (fun z => ⟨z.1, z.2.1, ?_, z.2.2.2⟩) (fun z => ⟨z.1, z.2.1, z.2.2.1, DV.wx hX k1 z.2.2.2⟩)⟩
      rw [aI_uA, if_neg (by omega)]
      exact z.2.2.1
/-- one thing more to be written later -/
theorem later_c {q : Int × Nat × Term} {F : SC → Prop} (hw : WRC c w) (ho : WO A P c w o) (hk : WK A P c w s K) (hl : K.length < 2005) (hq : (q.2.2 = .null ∧ q.2.1 = 2 ∧ -2147483647 ≤ q.1 ∧ q.1 ≤ 127) ∨ (isV q.2.2 = true ∧ VB s q.2.2 ∧ q.2.1 ≠ 2 ∧ DV A c P q.2.2 q.2.1 [])) (hF : ∀ e, WX w c e → WO A P e w o → WK A P e w s (q :: K) → F e) : ck iv L h0 d 248 [vr w, vr q.2.1, vi q.1] c (qv F) := by
  obtain ⟨⟨k1, k2, k3, k4, k5⟩, ⟨k6, k7, k8, k9⟩, k10, k11, k12, k13⟩ := id hw
  obtain ⟨⟨⟨o1, o2⟩, o3⟩, ⟨o4, o5⟩, o6⟩ := id ho
  obtain ⟨⟨h1, h2⟩, h3⟩ := id hk
  have kc : q.2.1 = 2 ∨ kl c q.2.1 = 10 := hq.imp (fun z => z.2.1) (fun z => (DV_kind z.1 z.2.2.2).1.2)
  refine C248 ⟨k1, fun r => by omega, fun r => ?_⟩
  rw [k4, k5]
  have hX : WX w c (uI (uA (uB c (w + 3) (fI c w 6) q.2.1) (w + 4) (fI c w 6) q.1) w 6 (fI c w 6 + 1)) := ((WX.rf.uB ⟨by omega, by omega⟩).uA ⟨by omega, by omega⟩).uI (Or.inr (Or.inr rfl))
  refine ⟨k8, by omega, kc, k9, by omega, by omega, hF _ hX ⟨⟨⟨?_, o2⟩, fun k y hy => ?_⟩, ⟨?_, o5⟩, fun k V hV => ?_⟩ ⟨⟨?_, ?_⟩, fun k y hy => ?_⟩⟩
  · rw [fI_uI, if_neg (by omega)]; exact o1
  · rw [aI_uI, aI_uA, if_neg (by omega)]; exact o3 k y hy
  · rw [fI_uI, if_neg (by omega)]; exact o4
  · refine ⟨?_, (o6 k V hV).2⟩
    rw [aR_uI, aR_uA, aR_uB, if_neg (by omega)]
    exact DV.wx hX k1 (o6 k V hV).1
  · rw [fI_uI, if_pos ⟨rfl, rfl⟩]
    simp; omega
  · simp; omega
  · rw [List.reverse_cons] at hy
    have e3 : ∀ k : Int, aR (uI (uA (uB c (w + 3) (fI c w 6) q.2.1) (w + 4) (fI c w 6) q.1) w 6 (fI c w 6 + 1)) (w + 3) k = if k = fI c w 6 then q.2.1 else aR c (w + 3) k := fun k => by rw [aR_uI, aR_uA, aR_uB]; simp
    have e4 : ∀ k : Int, aI (uI (uA (uB c (w + 3) (fI c w 6) q.2.1) (w + 4) (fI c w 6) q.1) w 6 (fI c w 6 + 1)) (w + 4) k = if k = fI c w 6 then q.1 else aI c (w + 4) k := fun k => by rw [aI_uI, aI_uA, aI_uB]; simp
    rw [e3, e4]
    rcases app_at hy with hy | ⟨rfl, rfl⟩
    · have hl2 := (List.getElem?_eq_some_iff.mp hy).1
      rw [List.length_reverse] at hl2
      rw [if_neg (by omega), if_neg (by omega)]
      obtain ⟨q1, q2⟩ := h3 k y hy
      exact ⟨q1, q2.imp (fun z => z) (fun z => ⟨z.1, z.2.1, z.2.2.1, DV.wx hX k1 z.2.2.2⟩)⟩
    · rw [List.length_reverse, if_pos (by omega), if_pos (by omega)]
      exact ⟨rfl, hq.imp (fun z => ⟨z.1, z.2.1, rfl, z.2.2⟩) (fun z => ⟨z.1, z.2.1, z.2.2.1, DV.wx hX k1 z.2.2.2⟩)⟩
/-- digits, the highest first -/
def hdg : Nat → Int → List Int
  | 0, z => [z % 10]
  | k + 1, z => (if z < p10 (k + 1) then [] else [z / p10 (k + 1) % 10]) ++ hdg k z
theorem hdg_lo : ∀ (k : Nat) (z : Int), 0 ≤ z → k ≤ 8 → hdg (k + 1) z = (if 0 < z / 10 then hdg k (z / 10) else []) ++ [z % 10] := by
  intro k
  induction k with
  | zero =>
    intro z hz _
    show (if z < p10 1 then [] else [z / p10 1 % 10]) ++ [z % 10] = _
    rw [show p10 1 = 10 by decide]
    by_cases q : z < 10
    · rw [if_pos q, if_neg (by omega)]
    · rw [if_neg q, if_pos (by omega)]; rfl
  | succ k ih =>
    intro z hz hk
    have hp := p10_le (k + 1) (by omega)
    have e : p10 (k + 1 + 1) = 10 * p10 (k + 1) := rfl
    show (if z < p10 (k + 1 + 1) then [] else [z / p10 (k + 1 + 1) % 10]) ++ hdg (k + 1) z = (if 0 < z / 10 then (if z / 10 < p10 (k + 1) then [] else [z / 10 / p10 (k + 1) % 10]) ++ hdg k (z / 10) else []) ++ [z % 10]
    rw [ih z hz (by omega), e]
    generalize p10 (k + 1) = m at *
    have ed : z / 10 / m = z / (10 * m) := by
      obtain ⟨n, rfl⟩ := Int.eq_ofNat_of_zero_le hz
      obtain ⟨j, rfl⟩ := Int.eq_ofNat_of_zero_le (show 0 ≤ m by omega)
      have := Nat.div_div_eq_div_mul n 10 j
      exact_mod_cast this
    rw [ed]
    by_cases q0 : 0 < z / 10
    · rw [if_pos q0, if_pos q0]
      by_cases q : z < 10 * m
      · rw [if_pos q, if_pos (by omega)]; simp
      · rw [if_neg q, if_neg (by omega)]; simp
    · rw [if_neg q0, if_neg q0, if_pos (by omega)]
      simp
theorem hdg_eq : ∀ (k : Nat) (z : Int), 0 ≤ z → k ≤ 9 → (dgs (k + 1) z).reverse = hdg k z := by
  intro k
  induction k with
  | zero =>
    intro z hz _
    show (z % 10 :: (if 0 < z / 10 then dgs 0 (z / 10) else [])).reverse = [z % 10]
    have : (if 0 < z / 10 then dgs 0 (z / 10) else []) = [] := by split <;> rfl
    rw [this]; rfl
  | succ k ih =>
    intro z hz hk
    rw [hdg_lo k z hz (by omega), ← ih (z / 10) (by omega) (by omega)]
    show (z % 10 :: (if 0 < z / 10 then dgs (k + 1) (z / 10) else [])).reverse = _
    rw [List.reverse_cons]
    by_cases q : 0 < z / 10
    · rw [if_pos q, if_pos q]
    · rw [if_neg q, if_neg q]; rfl
theorem dgts_c {F : SC → Prop} : ∀ (k : Nat) (c : SC) (o : List Int × List Term), k ≤ 9 → 0 ≤ z → z ≤ 2147483648 → WRC c w → WO A P c w o → WK A P c w s K → (∀ e, WX w c e → WO A P e w ((hdg k z).foldl (fun o x => outB o (48 + x)) o.1, o.2) → WK A P e w s K → F e) → wk iv L h0 (d + 1) 251 23 [lr w, ln, ll z, ln, ll (p10 k)] [] c (qv F) := by
  have dgt : ∀ m : Int, 0 ≤ m → w32 (48 + (m.tdiv 1 - (m.tdiv 1).tdiv 10 * 10)) = w32 (48 + (m.tdiv 1 - (m.tdiv 1).tdiv 10 * 10)) := fun _ _ => rfl
  have dg1 : ∀ m : Int, 0 ≤ m → w32 (48 + (m - m.tdiv 10 * 10)) = 48 + m % 10 := fun m hm => by
    rw [Int.tdiv_eq_ediv_of_nonneg hm, w32_id (by unfold inR; omega)]; omega
  intro k
  induction k with
  | zero =>
    intro c o _ z0 z1 hw ho hk hF
    have e0 : p10 0 = 1 := rfl
    rw [e0]
    have c1 : lcp 1 0 = 1 := by decide
    have c2 : lcp 1 1 = 0 := by decide
    refine C251_23 ⟨by unfold inL; omega, by unfold inL; omega, fun q => by omega, fun _ => ⟨by unfold inL; omega, fun _ => ?_, fun q => absurd c2 q⟩⟩
    rw [Int.tdiv_one, dg1 z z0]
    have et : z.tdiv 10 = z / 10 := Int.tdiv_eq_ediv_of_nonneg z0
    refine ⟨by unfold inL; omega, by decide, by unfold inL; omega, by unfold inL; omega, by rw [et]; unfold inL; omega, hw.1.1, ?_⟩
    refine add_c hw ho hk (by omega) (fun e h1 h2 h3 => ⟨by unfold inL; decide, ?_⟩)
    have c3 : (1 : Int).tdiv 10 = 0 := by decide
    rw [c3]
    have c4 : lcp 0 0 = 0 := by decide
    exact C251_23 ⟨by unfold inL; omega, by unfold inL; omega, fun _ => hF e h1 h2 h3, fun q => by omega⟩
  | succ k ih =>
    intro c o hk9 z0 z1 hw ho hk hF
    have hp := p10_le (k + 1) (by omega)
    have hp' := p10_le k (by omega)
    have e0 : p10 (k + 1) = 10 * p10 k := rfl
    have eh : hdg (k + 1) z = (if z < p10 (k + 1) then [] else [z / p10 (k + 1) % 10]) ++ hdg k z := rfl
    have et : (p10 (k + 1)).tdiv 10 = p10 k := by rw [Int.tdiv_eq_ediv_of_nonneg (by omega)]; omega
    have c1 : lcp (p10 (k + 1)) 0 = 1 := by unfold lcp; rw [if_pos (by omega)]
    have c2 : lcp (p10 (k + 1)) 1 = 1 := by unfold lcp; rw [if_pos (by omega)]
    rw [eh] at hF
    generalize p10 (k + 1) = m at *
    refine C251_23 ⟨by unfold inL; omega, by unfold inL; omega, fun q => by omega, fun _ => ⟨by unfold inL; omega, fun q => by omega, fun _ => ⟨by unfold inL; omega, fun q => ?_, fun q => ?_⟩⟩⟩
    · have q1 : z < m := by
        unfold lcp at q
        split at q
        · omega
        · split at q <;> omega
      rw [if_pos q1, List.nil_append] at hF
      rw [et]
      exact ⟨by unfold inL; omega, by unfold inL; omega, ih c o (by omega) z0 z1 hw ho hk hF⟩
    · have q1 : ¬ z < m := by
        unfold lcp at q
        intro q1
        rw [if_neg (by omega), if_neg (by omega)] at q
        omega
      rw [if_neg q1] at hF
      have ed : z.tdiv m = z / m := Int.tdiv_eq_ediv_of_nonneg z0
      have hdv : 0 ≤ z / m := Int.ediv_nonneg z0 (by omega)
      have hdl : z / m ≤ z := Int.ediv_le_self m z0
      have et2 : (z / m).tdiv 10 = z / m / 10 := Int.tdiv_eq_ediv_of_nonneg hdv
      rw [ed, dg1 _ hdv, et]
      refine ⟨by omega, by unfold inL; omega, by unfold inL; omega, by rw [et2]; unfold inL; omega, hw.1.1, ?_⟩
      refine add_c hw ho hk (by omega) (fun e h1 h2 h3 => ⟨by unfold inL; omega, ?_⟩)
      exact ih e _ (by omega) z0 z1 (hw.x h1) h2 h3 (fun f f1 f2 f3 => hF f (h1.tr f1) f2 f3)
theorem num_c {F : SC → Prop} (hw : WRC c w) (ho : WO A P c w o) (hk : WK A P c w s K) (hz : -2147483648 ≤ z ∧ z ≤ 2147483647) (hF : ∀ e, WX w c e → WO A P e w (pN z o) → WK A P e w s K → F e) : ck iv L h0 (d + 1) 251 [vr w, vi z] c (qv F) := by
  have c9 : p10 9 = 1000000000 := by decide
  have lz : lcp z 0 < 0 ↔ z < 0 := by
    unfold lcp
    split
    · omega
    · split <;> omega
  refine C251 ⟨by unfold inL; omega, by unfold inL; omega, fun q => ?_, fun q => ⟨hw.1.1, ?_⟩⟩
  · have q0 : ¬ z < 0 := fun w => by have := lz.mpr w; omega
    have := dgts_c (iv := iv) (L := L) (h0 := h0) (d := d) (z := z) (F := F) 9 c o (Nat.le_refl _) (by omega) (by omega) hw ho hk (fun e h1 h2 h3 => hF e h1 ?_ h3)
    · rw [c9] at this; exact this
    · rw [← hdg_eq 9 z (by omega) (Nat.le_refl _)] at h2
      unfold pN outN
      rw [if_neg q0, if_neg q0]
      exact h2
  · have q0 : z < 0 := lz.mp q
    refine add_c hw ho hk (by decide) (fun e h1 h2 h3 => ?_)
    have := dgts_c (iv := iv) (L := L) (h0 := h0) (d := d) (z := -z) (F := F) 9 e _ (Nat.le_refl _) (by omega) (by omega) (hw.x h1) h2 h3 (fun f f1 f2 f3 => hF f (h1.tr f1) ?_ f3)
    · rw [c9] at this; exact this
    · rw [← hdg_eq 9 (-z) (by omega) (Nat.le_refl _)] at f2
      unfold pN outN
      rw [if_pos q0, if_pos q0]
      exact f2
end
end
section
/-! Writing by the desk: words, one thing of what is to be written (C250 to C254). -/
def apK (so : Int → Int) (q : Int × Nat × Term) (o : List Int × List Term) : List Int × List Term := match q.2.2 with
  | .null => if 0 ≤ q.1 then pB q.1 o else pN (-1 - q.1) o
  | V => outT so V o
def runK (so : Int → Int) (K : List (Int × Nat × Term)) (o : List Int × List Term) : List Int × List Term := K.foldl (fun o q => apK so q o) o
theorem apK_v {so : Int → Int} {V : Term} (h : isV V = true) (k : Int) (x : Nat) (o : List Int × List Term) : apK so (k, x, V) o = outT so V o := by
  cases V <;> first | rfl | cases h
theorem apK_c {so : Int → Int} {k : Int} (h : 0 ≤ k) (x : Nat) (o : List Int × List Term) : apK so (k, x, .null) o = pB k o := if_pos h
theorem apK_n {so : Int → Int} {k : Int} (h : ¬ 0 ≤ k) (x : Nat) (o : List Int × List Term) : apK so (k, x, .null) o = pN (-1 - k) o := if_neg h
theorem runK_c (so : Int → Int) (q : Int × Nat × Term) (K : List (Int × Nat × Term)) (o : List Int × List Term) : runK so (q :: K) o = runK so K (apK so q o) := rfl
theorem outB_full {o : List Int} (h : o.length = 400) (x : Int) : outB o x = o := if_pos (by omega)
theorem fold_full {α : Type} (f : α → Int) {o : List Int} (h : o.length = 400) : ∀ (m : List α), m.foldl (fun o c => outB o (f c)) o = o := by
  intro m
  induction m with
  | nil => rfl
  | cons a m ih => show m.foldl (fun o c => outB o (f c)) (outB o (f a)) = o; rw [outB_full h]; exact ih
theorem pB_full {o : List Int × List Term} (h : o.1.length = 400) (x : Int) : pB x o = o := by unfold pB; rw [outB_full h]
theorem pN_full {o : List Int × List Term} (h : o.1.length = 400) (z : Int) : pN z o = o := by
  unfold pN outN
  rw [outB_full h, ite_self, fold_full (fun x => 48 + x) h]
theorem pW_full {o : List Int × List Term} (h : o.1.length = 400) (a : Nat) : pW a o = o := by
  unfold pW outW
  rw [fold_full (fun c : Int32 => c.toInt) h]
theorem outT_full {so : Int → Int} {o : List Int × List Term} (h : o.1.length = 400) (V : Term) : outT so V o = o := by
  have g : ∀ x, gd o x = o := fun x => if_pos h
  cases V with
  | int z => exact g _
  | arg z => exact g _
  | index z => exact g _
  | sub b E => cases b <;> first | rfl | exact g _
  | add x y => exact g _
  | div b E => cases b <;> first | rfl | exact g _
  | length x => exact g _
  | rem b z =>
    cases b with
    | index b =>
      cases z with
      | elem x z =>
        cases z with
        | elem y E => exact g _
        | _ => rfl
      | _ => rfl
    | _ => rfl
  | _ => rfl
theorem runK_full {so : Int → Int} : ∀ (K : List (Int × Nat × Term)) (o : List Int × List Term), o.1.length = 400 → runK so K o = o := by
  intro K
  induction K with
  | nil => intro o _; rfl
  | cons q K ih =>
    intro o h
    rw [runK_c]
    have : apK so q o = o := by
      obtain ⟨k, x, V⟩ := q
      cases V <;> first | (exact outT_full h _) | (by_cases hk : 0 ≤ k; exact (apK_c hk x o).trans (pB_full h _); exact (apK_n hk x o).trans (pN_full h _))
    rw [this]
    exact ih o h
theorem words_eq : strT 9 = strT 19 ∧ strT 10 = strT 20 ∧ strT 11 = strT 21 ∧ strT 12 = strT 22 ∧ strT 13 = strT 23 ∧ strT 14 = strT 24 ∧ strT 15 = strT 25 ∧ strT 16 = strT 26 ∧ strT 17 = strT 27 ∧ strT 18 = strT 28 := by decide +kernel
theorem words_in : ∀ a, a < 10 → ((strT (a + 9)).all fun c => decide (0 ≤ c.toInt ∧ c.toInt ≤ 127)) = true ∧ 1 ≤ (strT (a + 9)).length := by decide +kernel
section
variable {iv : List (Int × Int)} {L : Nat} {h0 : MH} {A A' : Int → Nat} {P Q : Nat → Prop} {c c0 e f : SC} {s s' : SM} {t : Term} {d p a w n : Nat} {x z : Int} {V : Term} {o : List Int × List Term} {K : List (Int × Nat × Term)} {l : List (Int × Nat)}
theorem text_at {F : SC → Prop} (ha : 8 ≤ a ∧ a < 8 + NS0) : ∀ (m p : List Int32) (o : List Int × List Term) (c : SC), strT a = p ++ m → (∀ q, q ∈ m → 0 ≤ q.toInt ∧ q.toInt ≤ 127) → WRC c w → WO A P c w o → WK A P c w s K → (∀ e, WX w c e → WO A P e w (m.foldl (fun o c => outB o c.toInt) o.1, o.2) → WK A P e w s K → F e) → wk iv L h0 (d + 1) 250 2 [lr w, lr a, li p.length] [] c (qv F) := by
  intro m
  induction m with
  | nil =>
    intro p o c e _ hw ho hk hF
    have el : slen a = p.length := by unfold slen; rw [e]; simp
    exact C250_2 ⟨ha, fun _ => hF c WX.rf ho hk, fun q => by omega⟩
  | cons b m ih =>
    intro p o c e hm hw ho hk hF
    have hb := (str_at (L := L) ha).2
    have el : slen a = p.length + (m.length + 1) := by unfold slen; rw [e]; simp
    have ec : scat a p.length = b.toInt := by unfold scat; rw [e]; simp
    have e' : strT a = (p ++ [b]) ++ m := by rw [e]; simp
    have el2 : ((p ++ [b]).length : Int) = p.length + 1 := by simp
    have hs : slen a ≤ 100 := by unfold slen; omega
    refine C250_2 ⟨ha, fun q => by omega, fun _ => ⟨by omega, hw.1.1, ?_⟩⟩
    rw [ec]
    have hb2 := hm b (List.mem_cons_self ..)
    refine add_c hw ho hk (by omega) (fun e1 h1 h2 h3 => ⟨by omega, ?_⟩)
    have := ih (p ++ [b]) _ e1 e' (fun q hq => hm q (List.mem_cons_of_mem _ hq)) (hw.x h1) h2 h3 (fun u u1 u2 u3 => hF u (h1.tr u1) u2 u3)
    rw [el2] at this
    exact this
theorem text_c {F : SC → Prop} (ha : 9 ≤ a ∧ a < 19) (hw : WRC c w) (ho : WO A P c w o) (hk : WK A P c w s K) (hF : ∀ e, WX w c e → WO A P e w (pW a o) → WK A P e w s K → F e) : ck iv L h0 (d + 1) 250 [vr w, vr a] c (qv F) := by
  have hn0 : 19 ≤ 8 + NS0 := by decide
  have hn : 8 ≤ a ∧ a < 8 + NS0 := ⟨by omega, by omega⟩
  have hi := (words_in (a - 9) (by omega)).1
  rw [show a - 9 + 9 = a by omega] at hi
  refine C250 (text_at hn (strT a) [] o c rfl (fun q hq => ?_) hw ho hk (fun e h1 h2 h3 => hF e h1 h2 h3))
  exact of_decide_eq_true (List.all_eq_true.mp hi q hq)
theorem pW_eq {a b : Nat} (h : strT a = strT b) (o : List Int × List Term) : pW a o = pW b o := by unfold pW outW; rw [h]
theorem word_c {k : Int} {F : Nat → SC → Prop} (hF : ∀ a, 9 ≤ a ∧ a < 19 → (∀ o, pW a o = pW (wrd k) o) → (∀ o : List Int × List Term, o.1.length < 400 → o.1.length < (pW a o).1.length) → F a c) : ck iv L h0 d 254 [vi k] c (qa F) := by
  obtain ⟨-, -, w1, w2, w3, w4, w5, w6, w7, w8⟩ := words_eq
  have ln : ∀ a, 9 ≤ a ∧ a < 19 → ∀ o : List Int × List Term, o.1.length < 400 → o.1.length < (pW a o).1.length := fun a ha o ho => by
    have h1 := (words_in (a - 9) (by omega)).2
    rw [show a - 9 + 9 = a by omega] at h1
    show o.1.length < (outW a o.1).length
    unfold outW
    cases h : strT a with
    | nil => rw [h] at h1; simp at h1
    | cons b m =>
      show o.1.length < (m.foldl (fun o c => outB o c.toInt) (outB o.1 b.toInt)).length
      have := fold_ge (fun c : Int32 => c.toInt) m (outB o.1 b.toInt)
      have := (outB_len o.1 b.toInt).2.1 ho
      omega
  refine C254 ⟨fun q => ?_, fun q => ?_, fun q => ?_, fun q => ?_, fun q => ?_, fun q => ?_, fun q => ?_, fun q => ?_⟩
  · exact hF 11 (by decide) (fun o => by rw [q]; exact pW_eq w1 o) (ln 11 (by decide))
  · exact hF 12 (by decide) (fun o => by rw [q]; exact pW_eq w2 o) (ln 12 (by decide))
  · exact hF 13 (by decide) (fun o => by rw [q]; exact pW_eq w3 o) (ln 13 (by decide))
  · exact hF 14 (by decide) (fun o => by rw [q]; exact pW_eq w4 o) (ln 14 (by decide))
  · refine hF 18 (by decide) (fun o => ?_) (ln 18 (by decide))
    unfold wrd
    rw [if_neg (by omega), if_neg (by omega), if_neg (by omega), if_neg (by omega), if_neg (by omega), if_neg (by omega), if_neg (by omega)]
    exact pW_eq w8 o
  · exact hF 15 (by decide) (fun o => by rw [q]; exact pW_eq w5 o) (ln 15 (by decide))
  · exact hF 16 (by decide) (fun o => by rw [q]; exact pW_eq w6 o) (ln 16 (by decide))
  · exact hF 17 (by decide) (fun o => by rw [q]; exact pW_eq w7 o) (ln 17 (by decide))
/-- one thing more, if there is room -/
theorem later_w {q : Int × Nat × Term} {F : SC → Prop} (hw : WRC c w) (ho : WO A P c w o) (hk : WK A P c w s K) (hq : (q.2.2 = .null ∧ q.2.1 = 2 ∧ -2147483647 ≤ q.1 ∧ q.1 ≤ 127) ∨ (isV q.2.2 = true ∧ VB s q.2.2 ∧ q.2.1 ≠ 2 ∧ DV A c P q.2.2 q.2.1 [])) (hF : ∀ e K', WX w c e → WO A P e w o → WK A P e w s K' → (K.length < 2005 → K' = q :: K) → F e) : ck iv L h0 d 248 [vr w, vr q.2.1, vi q.1] c (qv F) := by
  by_cases hl : K.length < 2005
  · exact later_c hw ho hk hl hq (fun e h1 h2 h3 => hF e _ h1 h2 h3 (fun _ => rfl))
  · exact C248 ⟨hw.1.1, fun _ => hF c K WX.rf ho hk (fun w => absurd w hl), fun r => by have := hk.1; omega⟩
/-- a hole is noted, its mark is written -/
theorem hole_w {F : SC → Prop} (hw : WRC c w) (ho : WO A P c w o) (hk : WK A P c w s K) (hl : o.1.length < 400) (hV0 : isW V = true ∧ isV V = true ∧ DV A c P V a []) (hF : ∀ e, WX w c e → WO A P e w (pB 63 (o.1, o.2 ++ [V])) → WK A P e w s K → F e) : (fI c w 3 < 400 → (-2147483648 ≤ (fI c w 1) + 1 ∧ (fI c w 1) + 1 ≤ 2147483647) ∧ (kl c (fR c w 0) = 106) ∧ (0 ≤ fI c w 1 ∧ fI c w 1 < le c (fR c w 0)) ∧ (a = 2 ∨ kl c a = 10) ∧ ck iv L h0 d 249 [vr w, vi 63] (uB (uI c w 1 ((fI c w 1) + 1)) (fR c w 0) (fI c w 1) a) (qv F)) := fun _ => by
  obtain ⟨⟨k1, k2, k3, k4, k5⟩, ⟨k6, k7, k8, k9⟩, k10, k11, k12, k13⟩ := id hw
  obtain ⟨⟨⟨o1, o2⟩, o3⟩, ⟨o4, o5⟩, o6⟩ := id ho
  rw [k2]
  refine ⟨by omega, k6, by omega, Or.inr (DV_kind hV0.2.1 hV0.2.2).1.2, ?_⟩
  generalize hu : uB (uI c w 1 (fI c w 1 + 1)) (w + 1) (fI c w 1) a = u
  have hX0 : WX w c u := by rw [← hu]; exact (WX.rf.uI (Or.inl rfl)).uB ⟨by omega, by omega⟩
  have u3 : fI u w 3 = fI c w 3 := by rw [← hu, fI_uB, fI_uI, if_neg (by omega)]
  have u1 : fI u w 1 = fI c w 1 + 1 := by rw [← hu, fI_uB, fI_uI, if_pos ⟨rfl, rfl⟩]
  have u6 : fI u w 6 = fI c w 6 := by rw [← hu, fI_uB, fI_uI, if_neg (by omega)]
  have uB1 : ∀ k : Int, aR u (w + 1) k = if k = fI c w 1 then a else aR c (w + 1) k := fun k => by rw [← hu, aR_uB, aR_uI]; simp
  have uB3 : aR u (w + 3) = aR c (w + 3) := by funext k; rw [← hu, aR_uB, aR_uI, if_neg (by omega)]
  have uI2 : aI u = aI c := by rw [← hu]; rfl
  have hwu := hw.x hX0
  clear hu
  refine C249 ⟨hwu.1.1, fun q => by omega, fun q => ?_⟩
  rw [hwu.1.2.2.1, u3]
  have hX : WX w c (uA (uI u w 3 (fI c w 3 + 1)) (w + 2) (fI c w 3) 63) := (hX0.uI (Or.inr (Or.inl rfl))).uA ⟨by omega, by omega⟩
  have el : (outB o.1 63).length = o.1.length + 1 := (outB_len o.1 63).2.1 hl
  refine ⟨by omega, hwu.2.1.2.1, ⟨by omega, by rw [hwu.2.2.2.1]; omega⟩, hF _ hX ⟨⟨⟨?_, ?_⟩, fun k y hy => ?_⟩, ⟨?_, ?_⟩, fun k V hV => ?_⟩ ⟨⟨?_, hk.1.2⟩, fun k q hq => ?_⟩⟩
  · show fI (uI u w 3 (fI c w 3 + 1)) w 3 = ((outB o.1 63).length : Int)
    rw [fI_uI, if_pos ⟨rfl, rfl⟩]
    omega
  · show (outB o.1 63).length ≤ 400
    omega
  · have hy : (outB o.1 63)[k]? = some y := hy
    unfold outB at hy
    rw [if_neg (by omega), w8_id (by decide) (by decide)] at hy
    show (if w + 2 = w + 2 ∧ (k : Int) = fI c w 3 then 63 else aI u (w + 2) k) = y
    rcases app_at hy with hy | ⟨rfl, rfl⟩
    · have := (List.getElem?_eq_some_iff.mp hy).1
      rw [if_neg (by omega), uI2]
      exact o3 k y hy
    · rw [if_pos ⟨rfl, by omega⟩]
  · show fI (uI u w 3 (fI c w 3 + 1)) w 1 = ((o.2 ++ [_]).length : Int)
    rw [fI_uI, if_neg (by omega), u1]
    simp; omega
  · show (o.2 ++ [_]).length ≤ (outB o.1 63).length
    simp; omega
  · rw [aR_uA, aR_uI, uB1]
    rcases app_at (show (o.2 ++ [_])[k]? = some V from hV) with hV | ⟨rfl, rfl⟩
    · have := (List.getElem?_eq_some_iff.mp hV).1
      rw [if_neg (by omega)]
      exact ⟨DV.wx hX k1 (o6 k V hV).1, (o6 k V hV).2⟩
    · rw [if_pos (by omega)]
      exact ⟨DV.wx hX k1 hV0.2.2, hV0.1⟩
  · show fI (uI u w 3 (fI c w 3 + 1)) w 6 = _
    rw [fI_uI, if_neg (by omega), u6]
    exact hk.1.1
  · obtain ⟨q1, q2⟩ := hk.2 k q hq
    have e4 : aI (uA (uI u w 3 (fI c w 3 + 1)) (w + 2) (fI c w 3) 63) (w + 4) k = aI c (w + 4) k := by rw [aI_uA, if_neg (by omega), aI_uI, uI2]
    rw [aR_uA, aR_uI, uB3, e4]
    exact ⟨q1, q2.imp id (fun z => ⟨z.1, z.2.1, z.2.2.1, DV.wx hX k1 z.2.2.2⟩)⟩
end
end
section
/-! Writing by the desk: a value's own part; all of a value (C252, C253, C247). -/
/-- nodes born, for writing -/
def NDW (A : Int → Nat) (c : SC) (s : SM) : Prop := (∀ b, 0 ≤ b → b < s.1 8 → kl c (A b) = 5 ∧ fI c (A b) 0 = b ∧ fI c (A b) 1 = s.2 9 b) ∧ s.1 8 ≤ 3004
/-- a step of writing was right -/
def OST (so : Int → Int) (V : Term) (o : List Int × List Term) (K : List (Int × Nat × Term)) (o' : List Int × List Term) (K' : List (Int × Nat × Term)) : Prop := runK so K' o' = runK so K (outT so V o) ∧ (o.1.length < 400 → o.1.length < o'.1.length ∧ (o'.1.length < 400 → K'.length + 3 * o.1.length ≤ K.length + 1 + 3 * o'.1.length)) ∧ o.1.length ≤ o'.1.length
theorem OST_of {so : Int → Int} {V : Term} {o o' : List Int × List Term} {K K' : List (Int × Nat × Term)} (hl : o.1.length ≤ 400) (h1 : o.1.length = 400 → o' = o) (h2 : o.1.length < 400 → runK so K' o' = runK so K (outT so V o) ∧ o.1.length < o'.1.length ∧ (o'.1.length < 400 → K'.length + 3 * o.1.length ≤ K.length + 1 + 3 * o'.1.length)) : OST so V o K o' K' := by
  by_cases h : o.1.length < 400
  · exact ⟨(h2 h).1, fun _ => (h2 h).2, Nat.le_of_lt (h2 h).2.1⟩
  · have h4 : o.1.length = 400 := by omega
    refine ⟨?_, fun w => absurd w h, by rw [h1 h4]; exact Nat.le_refl _⟩
    rw [h1 h4, outT_full h4, runK_full _ _ h4, runK_full _ _ h4]
theorem pB_len (x : Int) (o : List Int × List Term) : o.1.length ≤ (pB x o).1.length ∧ (o.1.length < 400 → (pB x o).1.length = o.1.length + 1) := ⟨(outB_len o.1 x).1, (outB_len o.1 x).2.1⟩
theorem pN_len (z : Int) (o : List Int × List Term) : o.1.length ≤ (pN z o).1.length := outN_ge z o.1
theorem pN_lt (z : Int) (o : List Int × List Term) (h : o.1.length < 400) : o.1.length < (pN z o).1.length := by
  show o.1.length < (outN z o.1).length
  unfold outN
  by_cases q : z < 0
  · rw [if_pos q, if_pos q]
    have := fold_ge (fun x : Int => 48 + x) (dgs 10 (-z)).reverse (outB o.1 45)
    have := (outB_len o.1 45).2.1 h
    omega
  · rw [if_neg q, if_neg q]
    rw [hdg_eq 9 z (by omega) (by decide)]
    have e : ∃ m x, hdg 9 z = m ++ [x] := ⟨_, z % 10, hdg_lo 8 z (by omega) (by decide)⟩
    obtain ⟨m, x, e⟩ := e
    rw [e, List.foldl_append]
    show o.1.length < (outB (m.foldl (fun o x => outB o (48 + x)) o.1) (48 + x)).length
    have h1 := fold_ge (fun x : Int => 48 + x) m o.1
    have h2 := outB_len (m.foldl (fun o x => outB o (48 + x)) o.1) (48 + x)
    by_cases q2 : (m.foldl (fun o x => outB o (48 + x)) o.1).length < 400
    · have := h2.2.1 q2; omega
    · omega
section
variable {iv : List (Int × Int)} {L : Nat} {h0 : MH} {A A' : Int → Nat} {P Q : Nat → Prop} {c c0 e f : SC} {s s' : SM} {t : Term} {d p a w n : Nat} {x z : Int} {V X Y E : Term} {o : List Int × List Term} {K : List (Int × Nat × Term)} {l : List (Int × Nat)}
theorem NDW.wx (h : NDW A c s) (hx : WX w c e) (hk : kl c w = 12) : NDW A e s := ⟨fun b b0 b1 => by
  obtain ⟨h1, h2, h3⟩ := h.1 b b0 b1
  have hn : A b ≠ w := fun q => by rw [q] at h1; omega
  exact ⟨(hx.2.1 _).1.trans h1, (hx.2.2.1 _ _ (fun q => hn q.1)).trans h2, (hx.2.2.1 _ _ (fun q => hn q.1)).trans h3⟩, h.2⟩
theorem later_n {k : Int} {F : SC → Prop} (hw : WRC c w) (ho : WO A P c w o) (hk : WK A P c w s K) (hq : -2147483647 ≤ k ∧ k ≤ 127) (hF : ∀ e K', WX w c e → WO A P e w o → WK A P e w s K' → (K.length < 2005 → K' = (k, 2, .null) :: K) → F e) : ck iv L h0 d 248 [vr w, vr 2, vi k] c (qv F) := later_w (q := (k, 2, .null)) hw ho hk (Or.inl ⟨rfl, rfl, hq⟩) hF
theorem later_v {x : Nat} {F : SC → Prop} (hw : WRC c w) (ho : WO A P c w o) (hk : WK A P c w s K) (hX : isV X = true ∧ VB s X) (hx : x ≠ 2 ∧ DV A c P X x []) (hF : ∀ e K', WX w c e → WO A P e w o → WK A P e w s K' → (K.length < 2005 → K' = (0, x, X) :: K) → F e) : ck iv L h0 d 248 [vr w, vr x, vi 0] c (qv F) := later_w (q := (0, x, X)) hw ho hk (Or.inr ⟨hX.1, hX.2, hx.1, hx.2⟩) hF
/-- what waits on one -/
theorem act_w {n : Nat} {F : SC → Prop} (hP : ∀ a, P a → a ≠ 2) (hw : WRC c w) (hN : NDW A c s) (ho : WO A P c w o) (hk : WK A P c w s K) (hl : o.1.length < 400 → K.length + 10 < 2005) (hV : VB s (.rem (.index n) (.elem X (.elem Y E)))) (hv : DV A c P (.rem (.index n) (.elem X (.elem Y E))) a []) (hF : ∀ e o' K', WX w c e → WO A P e w o' → WK A P e w s K' → OST (s.2 9) (.rem (.index n) (.elem X (.elem Y E))) o K o' K' → F e) : ck iv L h0 (d + 2) 253 [vr w, vr a] c (qv F) := by
  have hol := ho.1.1.2
  obtain ⟨⟨hn8, hXv, hXb⟩, hYc, -⟩ := hV
  have hYv : Y ≠ .null → isV Y = true ∧ VB s Y := fun q => hYc.resolve_right q
  have gN : ∀ {e : SC}, WX w c e → kl e (A n) = 5 ∧ fI e (A n) 0 = n ∧ fI e (A n) 1 = s.2 9 n := fun hx => (hN.wx hx hw.1.1).1 n (by omega) hn8
  -- the value's cell, whatever was written
  have cell : ∀ {e : SC}, WX w c e → kl e a = 10 ∧ fR e a 2 = A n ∧ (fR e a 3 ≠ 2 ∧ DV A e P X (fR e a 3) []) ∧ (Y = .null ↔ fR e a 4 = 2) ∧ (Y ≠ .null → DV A e P Y (fR e a 4) []) := fun hx => by
    obtain ⟨⟨⟨h1, h1'⟩, h2⟩, h2', h3, h4, h5, h5', h6⟩ := DV.wx hx hw.1.1 hv
    exact ⟨h1', h2', ⟨hP _ (DV_kind hXv h4).1.1, h4⟩, h5, h5'⟩
  have hg : ∀ z, gd o z = if o.1.length = 400 then o else z := fun z => rfl
  have eT : o.1.length < 400 → outT (s.2 9) (.rem (.index n) (.elem X (.elem Y E))) o = outZ (s.2 9 n) n (if isV Y = true then outT (s.2 9) Y (pB 32 (outT (s.2 9) X (pB 32 (pW (wrd (s.2 9 n)) (pB 40 o))))) else outT (s.2 9) X (pB 32 (pW (wrd (s.2 9 n)) (pB 40 o)))) := fun h => if_neg (by omega)
  refine C253 ⟨hw.1.1, add_c hw ho hk (by decide) (fun e1 x1 o1 s1 => ?_)⟩
  obtain ⟨c1, c2, -⟩ := cell x1
  have n1 := gN x1
  rw [c2, n1.2.2]
  refine ⟨c1, n1.1, word_c (fun tx htx hw1 hw2 => ⟨(hw.x x1).1.1, text_c htx (hw.x x1) o1 s1 (fun e2 x2 o2 s2 => ?_)⟩)⟩
  have x12 := x1.tr x2
  have hol2 : o.1.length < 400 → o.1.length + 1 < (pW tx (pB 40 o)).1.length ∨ (pW tx (pB 40 o)).1.length = 400 := fun h => by
    have h1 := (pB_len 40 o).2 h
    by_cases q : (pB 40 o).1.length < 400
    · have := hw2 _ q; omega
    · have h2 := outW_ge tx (pB 40 o).1
      have h3 : (pB 40 o).1.length ≤ (pW tx (pB 40 o)).1.length := h2
      have h4 := o2.1.1.2
      omega
  have full : o.1.length = 400 → pW tx (pB 40 o) = o := fun h => by rw [pB_full h, pW_full h]
  generalize ho2 : pW tx (pB 40 o) = o2' at *
  have eo2 : pW (wrd (s.2 9 n)) (pB 40 o) = o2' := by rw [← hw1, ho2]
  rw [eo2] at eT
  refine ⟨(hw.x x12).1.1, later_n (hw.x x12) o2 s2 (by decide) (fun e3 K3 x3 o3 s3 k3 => ?_)⟩
  have x13 := x12.tr x3
  obtain ⟨c1, c2, c3, c4, c5⟩ := cell x13
  have n1 := gN x13
  rw [c2, n1.2.2, n1.2.1]
  have fin : ∀ {e : SC} {K' : List (Int × Nat × Term)}, WX w c e → WO A P e w o2' → WK A P e w s K' → (o.1.length < 400 → runK (s.2 9) K' o2' = runK (s.2 9) K (outT (s.2 9) (.rem (.index n) (.elem X (.elem Y E))) o) ∧ K'.length ≤ K.length + 7) → F e := fun hx h1 h2 h3 => hF _ _ _ hx h1 h2 (OST_of hol full (fun h => by
    have := hol2 h
    have h4 := h1.1.1.2
    exact ⟨(h3 h).1, by omega, fun h5 => by have := (h3 h).2; omega⟩))
  refine ⟨c1, n1.1, fun so => ?_, fun so => ?_⟩
  · refine ⟨fun q => ⟨(hw.x x13).1.1, later_v (hw.x x13) o3 s3 ⟨hXv, hXb⟩ c3 (fun e4 K4 x4 o4 s4 k4 => ?_)⟩, fun q => ⟨(hw.x x13).1.1, ?_⟩⟩
    · have x14 := x13.tr x4
      refine ⟨(hw.x x14).1.1, later_n (hw.x x14) o4 s4 (by decide) (fun e5 K5 x5 o5 s5 k5 => ?_)⟩
      refine fin (x14.tr x5) o5 s5 (fun h => ?_)
      have hlk := hl h
      have k3 := k3 (by omega)
      subst k3
      have k4 := k4 (by simp; omega)
      subst k4
      have k5 := k5 (by simp; omega)
      subst k5
      rw [eT h, if_neg (by rw [c4.mpr q]; decide)]
      unfold outZ
      rw [if_neg so]
      simp only [runK_c, apK_c (show (0 : Int) ≤ 32 by decide), apK_c (show (0 : Int) ≤ 41 by decide), apK_v hXv]
      exact ⟨trivial, by simp⟩
    · have hYn : Y ≠ .null := fun w => q (c4.mp w)
      refine later_v (hw.x x13) o3 s3 (hYv hYn) ⟨q, c5 hYn⟩ (fun e4 K4 x4 o4 s4 k4 => ?_)
      have x14 := x13.tr x4
      refine ⟨(hw.x x14).1.1, later_n (hw.x x14) o4 s4 (by decide) (fun e5 K5 x5 o5 s5 k5 => ?_)⟩
      have x15 := x14.tr x5
      obtain ⟨d1, -, d3, -⟩ := cell x15
      refine ⟨d1, (hw.x x15).1.1, later_v (hw.x x15) o5 s5 ⟨hXv, hXb⟩ d3 (fun e6 K6 x6 o6 s6 k6 => ?_)⟩
      have x16 := x15.tr x6
      refine ⟨(hw.x x16).1.1, later_n (hw.x x16) o6 s6 (by decide) (fun e7 K7 x7 o7 s7 k7 => ?_)⟩
      refine fin (x16.tr x7) o7 s7 (fun h => ?_)
      have hlk := hl h
      have k3 := k3 (by omega)
      subst k3
      have k4 := k4 (by simp; omega)
      subst k4
      have k5 := k5 (by simp; omega)
      subst k5
      have k6 := k6 (by simp; omega)
      subst k6
      have k7 := k7 (by simp; omega)
      subst k7
      rw [eT h, if_pos (hYv hYn).1]
      unfold outZ
      rw [if_neg so]
      simp only [runK_c, apK_c (show (0 : Int) ≤ 32 by decide), apK_c (show (0 : Int) ≤ 41 by decide), apK_v hXv, apK_v (hYv hYn).1]
      exact ⟨trivial, by simp⟩
  · have h8 := hN.2
    have en : ¬ (0 : Int) ≤ -1 - (n : Int) := by omega
    have en2 : -1 - (-1 - (n : Int)) = n := by omega
    refine ⟨by omega, (hw.x x13).1.1, later_n (hw.x x13) o3 s3 (by omega) (fun e4 K4 x4 o4 s4 k4 => ?_)⟩
    have x14 := x13.tr x4
    refine ⟨(hw.x x14).1.1, later_n (hw.x x14) o4 s4 (by decide) (fun e5 K5 x5 o5 s5 k5 => ?_)⟩
    have x15 := x14.tr x5
    obtain ⟨d1, d2, d3, d4, d5⟩ := cell x15
    refine ⟨d1, fun q => ⟨(hw.x x15).1.1, later_v (hw.x x15) o5 s5 ⟨hXv, hXb⟩ d3 (fun e6 K6 x6 o6 s6 k6 => ?_)⟩, fun q => ⟨(hw.x x15).1.1, ?_⟩⟩
    · have x16 := x15.tr x6
      refine ⟨(hw.x x16).1.1, later_n (hw.x x16) o6 s6 (by decide) (fun e7 K7 x7 o7 s7 k7 => ?_)⟩
      refine fin (x16.tr x7) o7 s7 (fun h => ?_)
      have hlk := hl h
      have k3 := k3 (by omega)
      subst k3
      have k4 := k4 (by simp; omega)
      subst k4
      have k5 := k5 (by simp; omega)
      subst k5
      have k6 := k6 (by simp; omega)
      subst k6
      have k7 := k7 (by simp; omega)
      subst k7
      rw [eT h, if_neg (by rw [d4.mpr q]; decide)]
      unfold outZ
      rw [if_pos so]
      simp only [runK_c, apK_c (show (0 : Int) ≤ 32 by decide), apK_c (show (0 : Int) ≤ 41 by decide), apK_v hXv, apK_n en, en2]
      exact ⟨trivial, by simp⟩
    · have hYn : Y ≠ .null := fun w => q (d4.mp w)
      refine later_v (hw.x x15) o5 s5 (hYv hYn) ⟨q, d5 hYn⟩ (fun e6 K6 x6 o6 s6 k6 => ?_)
      have x16 := x15.tr x6
      refine ⟨(hw.x x16).1.1, later_n (hw.x x16) o6 s6 (by decide) (fun e7 K7 x7 o7 s7 k7 => ?_)⟩
      have x17 := x16.tr x7
      obtain ⟨f1, -, f3, -⟩ := cell x17
      refine ⟨f1, (hw.x x17).1.1, later_v (hw.x x17) o7 s7 ⟨hXv, hXb⟩ f3 (fun e8 K8 x8 o8 s8 k8 => ?_)⟩
      have x18 := x17.tr x8
      refine ⟨(hw.x x18).1.1, later_n (hw.x x18) o8 s8 (by decide) (fun e9 K9 x9 o9 s9 k9 => ?_)⟩
      refine fin (x18.tr x9) o9 s9 (fun h => ?_)
      have hlk := hl h
      have k3 := k3 (by omega)
      subst k3
      have k4 := k4 (by simp; omega)
      subst k4
      have k5 := k5 (by simp; omega)
      subst k5
      have k6 := k6 (by simp; omega)
      subst k6
      have k7 := k7 (by simp; omega)
      subst k7
      have k8 := k8 (by simp; omega)
      subst k8
      have k9 := k9 (by simp; omega)
      subst k9
      rw [eT h, if_pos (hYv hYn).1]
      unfold outZ
      rw [if_pos so]
      simp only [runK_c, apK_c (show (0 : Int) ≤ 32 by decide), apK_c (show (0 : Int) ≤ 41 by decide), apK_v hXv, apK_v (hYv hYn).1, apK_n en, en2]
      exact ⟨trivial, by simp⟩
end
end
section
/-! Writing by the desk: one value's own part, all of it (C252, C247). -/
section
variable {iv : List (Int × Int)} {L : Nat} {h0 : MH} {A A' : Int → Nat} {P Q : Nat → Prop} {c c0 e f : SC} {s s' : SM} {t : Term} {d p a w n : Nat} {x z : Int} {V X Y E : Term} {o : List Int × List Term} {K : List (Int × Nat × Term)} {l : List (Int × Nat)}
theorem one_c {F : SC → Prop} (hP : ∀ a, P a → a ≠ 2) (hw : WRC c w) (hN : NDW A c s) (ho : WO A P c w o) (hk : WK A P c w s K) (hl : o.1.length < 400 → K.length + 10 < 2005) (hV : isV V = true ∧ VB s V) (hv : DV A c P V a []) (hF : ∀ e o' K', WX w c e → WO A P e w o' → WK A P e w s K' → OST (s.2 9) V o K o' K' → F e) : ck iv L h0 (d + 3) 252 [vr w, vr a] c (qv F) := by
  have hol := ho.1.1.2
  obtain ⟨⟨v1, v2⟩, v3, v4⟩ := DV_kind hV.1 hv
  have gN : ∀ {e : SC} {n : Nat}, WX w c e → (n : Int) < s.1 8 → kl e (A n) = 5 ∧ fI e (A n) 0 = n := fun hx hn => ⟨((hN.wx hx hw.1.1).1 _ (by omega) hn).1, ((hN.wx hx hw.1.1).1 _ (by omega) hn).2.1⟩
  have tv : ∀ {e : SC}, WX w c e → DV A e P V a [] := fun hx => DV.wx hx hw.1.1 hv
  have gdn : ∀ z, o.1.length < 400 → gd o z = z := fun z h => if_neg (by omega)
  have ro := hN.2
  refine C252 ⟨v2, ?_⟩
  rw [v3]
  cases V with
  | int z =>
    have h1 : fI c a 1 = z.toInt := hv.2.1
    rw [h1]
    refine ⟨fun _ => ⟨hw.1.1, ?_⟩, fun q => (by cases q), fun q => (by cases q), fun q => (by cases q), fun q => (by cases q), fun q => (by cases q), fun q => (by cases q), fun q => by revert q; show (0 : Int) < 0 ∨ 6 < (0 : Int) → _; omega⟩
    refine num_c hw ho hk ⟨z.le_toInt, by have := z.toInt_lt; omega⟩ (fun e x1 o1 s1 => hF e _ _ x1 o1 s1 (OST_of hol (fun h => pN_full h _) (fun h => ⟨?_, pN_lt _ _ h, fun _ => by have := pN_lt z.toInt o h; omega⟩)))
    show _ = runK _ K (gd o (pN z.toInt o))
    rw [gdn _ h]
  | arg n =>
    have h1 : fI c a 1 = (n : Int) := hv.2.1
    rw [h1]
    have hn : n ≤ 1 := hV.2
    obtain ⟨w9, w10, -⟩ := words_eq
    refine ⟨fun q => (by cases q), fun _ => ⟨fun q => ⟨hw.1.1, ?_⟩, fun q => ⟨hw.1.1, ?_⟩⟩, fun q => (by cases q), fun q => (by cases q), fun q => (by cases q), fun q => (by cases q), fun q => (by cases q), fun q => by revert q; show (1 : Int) < 0 ∨ 6 < (1 : Int) → _; omega⟩
    · have ln : ∀ o : List Int × List Term, o.1.length < 400 → o.1.length < (pW 10 o).1.length := fun o h => by
        have e : pW 10 o = (((strT 10).foldl (fun o c => outB o c.toInt) o.1), o.2) := rfl
        rw [e]
        have hs : 1 ≤ (strT 10).length := (words_in 1 (by decide)).2
        cases hh : strT 10 with
        | nil => rw [hh] at hs; simp at hs
        | cons b m =>
          show o.1.length < (m.foldl (fun o c => outB o c.toInt) (outB o.1 b.toInt)).length
          have := fold_ge (fun c : Int32 => c.toInt) m (outB o.1 b.toInt)
          have := (outB_len o.1 b.toInt).2.1 h
          omega
      refine text_c (by decide) hw ho hk (fun e x1 o1 s1 => hF e _ _ x1 o1 s1 (OST_of hol (fun h => pW_full h _) (fun h => ⟨?_, ln _ h, fun _ => by have := ln o h; omega⟩)))
      show _ = runK _ K (gd o (pW (if n = 1 then 19 else 20) o))
      rw [gdn _ h, if_neg (by omega), pW_eq w10]
    · have ln : ∀ o : List Int × List Term, o.1.length < 400 → o.1.length < (pW 9 o).1.length := fun o h => by
        have e : pW 9 o = (((strT 9).foldl (fun o c => outB o c.toInt) o.1), o.2) := rfl
        rw [e]
        have hs : 1 ≤ (strT 9).length := (words_in 0 (by decide)).2
        cases hh : strT 9 with
        | nil => rw [hh] at hs; simp at hs
        | cons b m =>
          show o.1.length < (m.foldl (fun o c => outB o c.toInt) (outB o.1 b.toInt)).length
          have := fold_ge (fun c : Int32 => c.toInt) m (outB o.1 b.toInt)
          have := (outB_len o.1 b.toInt).2.1 h
          omega
      refine text_c (by decide) hw ho hk (fun e x1 o1 s1 => hF e _ _ x1 o1 s1 (OST_of hol (fun h => pW_full h _) (fun h => ⟨?_, ln _ h, fun _ => by have := ln o h; omega⟩)))
      show _ = runK _ K (gd o (pW (if n = 1 then 19 else 20) o))
      rw [gdn _ h, if_pos (by omega), pW_eq w9]
  | sub b E =>
    cases b with
    | index n =>
      refine ⟨fun q => (by cases q), fun q => (by cases q), fun _ => ⟨hw.1.1, ?_⟩, fun q => (by cases q), fun q => (by cases q), fun q => (by cases q), fun q => (by cases q), fun q => by revert q; show (2 : Int) < 0 ∨ 6 < (2 : Int) → _; omega⟩
      refine add_c hw ho hk (by decide) (fun e x1 o1 s1 => ?_)
      have t1 := tv x1
      have g := gN x1 hV.2.1
      have e2 : fR e a 2 = A n := t1.2.1
      rw [e2, g.2]
      refine ⟨t1.1.1.2, g.1, (hw.x x1).1.1, num_c (hw.x x1) o1 s1 (by have := hV.2.1; omega) (fun e2 x2 o2 s2 => hF e2 _ _ (x1.tr x2) o2 s2 (OST_of hol (fun h => by rw [pB_full h, pN_full h]) (fun h => ⟨?_, ?_, fun _ => ?_⟩)))⟩
      · show _ = runK _ K (gd o (pN n (pB 100 o)))
        rw [gdn _ h]
      · have := (pB_len 100 o).2 h; have := pN_len n (pB 100 o); omega
      · have := (pB_len 100 o).2 h; have := pN_len n (pB 100 o); omega
    | _ => cases hV.1
  | add X Y =>
    obtain ⟨⟨hX1, hX2⟩, hY1, hY2⟩ := hV.2
    have cx : ∀ {e : SC}, WX w c e → (kl e a = 10) ∧ (fR e a 3 ≠ 2 ∧ DV A e P X (fR e a 3) []) ∧ fR e a 4 ≠ 2 ∧ DV A e P Y (fR e a 4) [] := fun hx => by
      obtain ⟨⟨⟨h1, h1'⟩, h2⟩, h3, h4, h5⟩ := tv hx
      exact ⟨h1', ⟨hP _ (DV_kind hX1 h4).1.1, h4⟩, hP _ (DV_kind hY1 h5).1.1, h5⟩
    refine ⟨fun q => (by cases q), fun q => (by cases q), fun q => (by cases q), fun _ => ⟨hw.1.1, ?_⟩, fun q => (by cases q), fun q => (by cases q), fun q => (by cases q), fun q => by revert q; show (3 : Int) < 0 ∨ 6 < (3 : Int) → _; omega⟩
    refine add_c hw ho hk (by decide) (fun e1 x1 o1 s1 => ⟨(hw.x x1).1.1, later_n (hw.x x1) o1 s1 (by decide) (fun e2 K2 x2 o2 s2 k2 => ?_)⟩)
    have x2 := x1.tr x2
    obtain ⟨c1, c2, c3⟩ := cx x2
    refine ⟨c1, (hw.x x2).1.1, later_v (hw.x x2) o2 s2 ⟨hY1, hY2⟩ c3 (fun e3 K3 x3 o3 s3 k3 => ?_)⟩
    have x3 := x2.tr x3
    refine ⟨(hw.x x3).1.1, later_n (hw.x x3) o3 s3 (by decide) (fun e4 K4 x4 o4 s4 k4 => ?_)⟩
    have x4 := x3.tr x4
    obtain ⟨c1, c2, c3⟩ := cx x4
    refine ⟨c1, (hw.x x4).1.1, later_v (hw.x x4) o4 s4 ⟨hX1, hX2⟩ c2 (fun e5 K5 x5 o5 s5 k5 => hF e5 _ _ (x4.tr x5) o5 s5 (OST_of hol (fun h => pB_full h _) (fun h => ?_)))⟩
    have hlk := hl h
    have k2 := k2 (by omega)
    subst k2
    have k3 := k3 (by simp; omega)
    subst k3
    have k4 := k4 (by simp; omega)
    subst k4
    have k5 := k5 (by simp; omega)
    subst k5
    have := (pB_len 91 o).2 h
    refine ⟨?_, by omega, fun _ => by simp; omega⟩
    show _ = runK _ K (gd o (pB 93 (outT (s.2 9) Y (pB 32 (outT (s.2 9) X (pB 91 o))))))
    rw [gdn _ h]
    simp only [runK_c, apK_c (show (0 : Int) ≤ 32 by decide), apK_c (show (0 : Int) ≤ 93 by decide), apK_v hX1, apK_v hY1]
  | div b E =>
    cases b with
    | index n =>
      have g0 : ∀ {e : SC}, WX w c e → kl e a = 10 ∧ kl e (fR e a 2) = 5 ∧ fI e (fR e a 2) 0 = n := fun {e} hx => by
        have t1 := tv hx
        have e2 : fR e a 2 = A n := t1.2.1
        rw [e2]
        exact ⟨t1.1.1.2, (gN hx hV.2.1).1, (gN hx hV.2.1).2⟩
      have hr : -2147483648 ≤ (n : Int) ∧ (n : Int) ≤ 2147483647 := by have := hV.2.1; omega
      refine ⟨fun q => (by cases q), fun q => (by cases q), fun q => (by cases q), fun q => (by cases q), fun _ => ⟨hw.1.1, fun q => ?_, fun q => ?_⟩, fun q => (by cases q), fun q => (by cases q), fun q => by revert q; show (4 : Int) < 0 ∨ 6 < (4 : Int) → _; omega⟩
      · refine add_c hw ho hk (by decide) (fun e1 x1 o1 s1 => ?_)
        obtain ⟨g1, g2, g3⟩ := g0 x1
        rw [g3]
        have h4 : o.1.length = 400 := by have := ho.1.1.1; omega
        refine ⟨g1, g2, (hw.x x1).1.1, num_c (hw.x x1) o1 s1 hr (fun e2 x2 o2 s2 => hF e2 _ _ (x1.tr x2) o2 s2 (OST_of hol (fun h => by rw [pB_full h, pN_full h]) (fun h => by omega)))⟩
      · have h4 : o.1.length < 400 := by have := ho.1.1.1; omega
        refine hole_w hw ho hk h4 ⟨rfl, hV.1, hv⟩ (fun e1 x1 o1 s1 => ?_) q
        obtain ⟨g1, g2, g3⟩ := g0 x1
        rw [g3]
        refine ⟨g1, g2, (hw.x x1).1.1, num_c (hw.x x1) o1 s1 hr (fun e2 x2 o2 s2 => hF e2 _ _ (x1.tr x2) o2 s2 (OST_of hol (fun h => by omega) (fun h => ⟨?_, ?_, fun _ => ?_⟩)))⟩
        · show _ = runK _ K (gd o (pN n (pB 63 (o.1, o.2 ++ [.div (.index n) E]))))
          rw [gdn _ h]
        · have h1 : (pB 63 (o.1, o.2 ++ [.div (.index n) E])).1.length = o.1.length + 1 := (outB_len o.1 63).2.1 h
          have := pN_len n (pB 63 (o.1, o.2 ++ [.div (.index n) E])); omega
        · have h1 : (pB 63 (o.1, o.2 ++ [.div (.index n) E])).1.length = o.1.length + 1 := (outB_len o.1 63).2.1 h
          have := pN_len n (pB 63 (o.1, o.2 ++ [.div (.index n) E])); omega
    | _ => cases hV.1
  | index n =>
    have hn : n < 26 := hV.2
    refine ⟨fun q => (by cases q), fun q => (by cases q), fun q => (by cases q), fun q => (by cases q), fun q => (by cases q), fun _ => ⟨hw.1.1, ?_⟩, fun q => (by cases q), fun q => by revert q; show (5 : Int) < 0 ∨ 6 < (5 : Int) → _; omega⟩
    refine add_c hw ho hk (by decide) (fun e1 x1 o1 s1 => ?_)
    have t1 := tv x1
    have e1' : fI e1 a 1 = (n : Int) := t1.2.1
    rw [e1']
    refine ⟨t1.1.1.2, by omega, (hw.x x1).1.1, add_c (hw.x x1) o1 s1 (by omega) (fun e2 x2 o2 s2 => hF e2 _ _ (x1.tr x2) o2 s2 (OST_of hol (fun h => by rw [pB_full h, pB_full h]) (fun h => ⟨?_, ?_, fun _ => ?_⟩)))⟩
    · show _ = runK _ K (gd o (pB (97 + n) (pB 33 o)))
      rw [gdn _ h]
    · have := (pB_len 33 o).2 h; have := (pB_len (97 + n) (pB 33 o)).1; omega
    · have := (pB_len 33 o).2 h; have := (pB_len (97 + n) (pB 33 o)).1; omega
  | length X =>
    obtain ⟨hX1, hX2⟩ := hV.2
    refine ⟨fun q => (by cases q), fun q => (by cases q), fun q => (by cases q), fun q => (by cases q), fun q => (by cases q), fun q => (by cases q), fun _ => ⟨hw.1.1, ?_⟩, fun q => by revert q; show (6 : Int) < 0 ∨ 6 < (6 : Int) → _; omega⟩
    refine add_c hw ho hk (by decide) (fun e1 x1 o1 s1 => ⟨(hw.x x1).1.1, later_n (hw.x x1) o1 s1 (by decide) (fun e2 K2 x2 o2 s2 k2 => ?_)⟩)
    have x2 := x1.tr x2
    obtain ⟨⟨⟨h1, h1'⟩, h2⟩, h3, h4⟩ := tv x2
    refine ⟨h1', (hw.x x2).1.1, later_v (hw.x x2) o2 s2 ⟨hX1, hX2⟩ ⟨hP _ (DV_kind hX1 h4).1.1, h4⟩ (fun e3 K3 x3 o3 s3 k3 => hF e3 _ _ (x2.tr x3) o3 s3 (OST_of hol (fun h => pB_full h _) (fun h => ?_)))⟩
    have hlk := hl h
    have k2 := k2 (by omega)
    subst k2
    have k3 := k3 (by simp; omega)
    subst k3
    have := (pB_len 123 o).2 h
    refine ⟨?_, by omega, fun _ => by simp; omega⟩
    show _ = runK _ K (gd o (pB 125 (outT (s.2 9) X (pB 123 o))))
    rw [gdn _ h]
    simp only [runK_c, apK_c (show (0 : Int) ≤ 125 by decide), apK_v hX1]
  | rem b z =>
    cases b with
    | index n =>
      cases z with
      | elem X z =>
        cases z with
        | elem Y E =>
          refine ⟨fun q => (by cases q), fun q => (by cases q), fun q => (by cases q), fun q => (by cases q), fun q => (by cases q), fun q => (by cases q), fun q => (by cases q), fun _ => ⟨hw.1.1, act_w hP hw hN ho hk hl hV.2 hv (fun e o' K' h1 h2 h3 h4 => hF e o' K' h1 h2 h3 h4)⟩⟩
        | _ => cases hV.1
      | _ => cases hV.1
    | _ => cases hV.1
  | _ => cases hV.1
end
end
section
/-! Writing by the desk: all of a value (C247). -/
section
variable {iv : List (Int × Int)} {L : Nat} {h0 : MH} {A A' : Int → Nat} {P Q : Nat → Prop} {c c0 e f : SC} {s s' : SM} {t : Term} {d p a w n : Nat} {x z : Int} {V X Y E : Term} {o : List Int × List Term} {K : List (Int × Nat × Term)} {l : List (Int × Nat)} {q : Int × Nat × Term}
/-- the next thing -/
theorem pop_c (hw : WRC c w) (ho : WO A P c w o) (hk : WK A P c w s (q :: K)) : fI c w 6 = K.length + 1 ∧ (aR c (w + 3) K.length = q.2.1 ∧ ((q.2.2 = .null ∧ q.2.1 = 2 ∧ aI c (w + 4) K.length = q.1 ∧ -2147483647 ≤ q.1 ∧ q.1 ≤ 127) ∨ (isV q.2.2 = true ∧ VB s q.2.2 ∧ q.2.1 ≠ 2 ∧ DV A c P q.2.2 q.2.1 []))) ∧ WX w c (uI c w 6 (fI c w 6 - 1)) ∧ WO A P (uI c w 6 (fI c w 6 - 1)) w o ∧ WK A P (uI c w 6 (fI c w 6 - 1)) w s K ∧ fI (uI c w 6 (fI c w 6 - 1)) w 6 = K.length := by
  obtain ⟨⟨h1, h2⟩, h3⟩ := hk
  have hx : WX w c (uI c w 6 (fI c w 6 - 1)) := WX.rf.uI (Or.inr (Or.inr rfl))
  have h1 : fI c w 6 = K.length + 1 := by rw [h1]; simp
  have e6 : fI (uI c w 6 (fI c w 6 - 1)) w 6 = K.length := by rw [fI_uI, if_pos ⟨rfl, rfl⟩]; omega
  have hq := h3 K.length q (by rw [List.reverse_cons, List.getElem?_append_right (by simp)]; simp)
  obtain ⟨⟨⟨o1, o2⟩, o3⟩, ⟨o4, o5⟩, o6⟩ := ho
  refine ⟨h1, hq, hx, ⟨⟨⟨?_, o2⟩, o3⟩, ⟨?_, o5⟩, fun k V hV => ⟨DV.wx hx hw.1.1 (o6 k V hV).1, (o6 k V hV).2⟩⟩, ⟨⟨e6, by simp at h2; omega⟩, fun k y hy => ?_⟩, e6⟩
  · rw [fI_uI, if_neg (by omega)]; exact o1
  · rw [fI_uI, if_neg (by omega)]; exact o4
  · obtain ⟨q1, q2⟩ := h3 k y (by
      have := (List.getElem?_eq_some_iff.mp hy).1
      rw [List.reverse_cons, List.getElem?_append_left this]; exact hy)
    exact ⟨q1, q2.imp id (fun z => ⟨z.1, z.2.1, z.2.2.1, DV.wx hx hw.1.1 z.2.2.2⟩)⟩
theorem loop_w {T : List Int × List Term} {F : SC → Prop} (hP : ∀ a, P a → a ≠ 2) (hF : ∀ e, WX w c0 e → WO A P e w T → F e) : ∀ (m : Nat) (i : Int) (c : SC) (o : List Int × List Term) (K : List (Int × Nat × Term)), 0 ≤ i → i + m = 400 → WX w c0 c → WRC c w → NDW A c s → WO A P c w o → WK A P c w s K → runK (s.2 9) K o = T → (o.1.length < 400 → i ≤ o.1.length ∧ K.length ≤ 1 + 3 * o.1.length) → wk iv L h0 (d + 4) 247 23 [lr w, ln, li i] [] c (qv F) := by
  intro m
  induction m with
  | zero =>
    intro i c o K i0 hi hx hw hN ho hk hr hl
    have h4 := ho.1.1.2
    have : o.1.length = 400 := by
      by_cases q : o.1.length < 400
      · have := (hl q).1; omega
      · omega
    rw [runK_full K o this] at hr
    rw [← hr] at hF
    exact C247_23 ⟨fun _ => hF c hx ho, fun q => by omega⟩
  | succ m ih =>
    intro i c o K i0 hi hx hw hN ho hk hr hl
    refine C247_23 ⟨fun q => by omega, fun _ => ⟨hw.1.1, fun q => ?_, fun q => ?_⟩⟩
    · cases K with
      | nil =>
        have hr : o = T := hr
        rw [← hr] at hF
        exact hF c hx ho
      | cons q K =>
        have := (pop_c hw ho hk).1
        omega
    · cases K with
      | nil =>
        have := hk.1.1
        simp at this
        omega
      | cons q K =>
        obtain ⟨p1, ⟨p2, p3⟩, p4, p5, p6, p7⟩ := pop_c hw ho hk
        have hkl := hk.1.2
        simp only [List.length_cons] at hkl
        have hol := ho.1.1.2
        have hw2 := hw.x p4
        have hN2 := hN.wx p4 hw.1.1
        have hx2 := hx.tr p4
        rw [p7]
        obtain ⟨⟨k1, k2, k3, k4, k5⟩, ⟨k6, k7, k8, k9⟩, k10, k11, k12, k13⟩ := id hw
        rw [k4, k5, p2]
        -- one round more
        have nxt : ∀ {e : SC} {o' : List Int × List Term} {K' : List (Int × Nat × Term)}, WX w (uI c w 6 (fI c w 6 - 1)) e → WO A P e w o' → WK A P e w s K' → runK (s.2 9) K' o' = T → (o.1.length < 400 → o.1.length < o'.1.length ∧ (o'.1.length < 400 → K'.length + 3 * o.1.length ≤ K.length + 1 + 3 * o'.1.length)) → o.1.length ≤ o'.1.length → (-2147483648 ≤ i + 1 ∧ i + 1 ≤ 2147483647) ∧ wk iv L h0 (d + 4) 247 23 [lr w, ln, li (i + 1)] [] e (qv F) := fun {e o' K'} e1 e2 e3 e4 e5 e6 => ⟨by omega, ih (i + 1) e o' K' (by omega) (by omega) (hx2.tr e1) (hw2.x e1) (hN2.wx e1 hw2.1.1) e2 e3 e4 (fun h => by
          have h1 := e5 (by omega)
          have h2 := hl (by omega)
          simp only [List.length_cons] at h2
          have h3 := h1.2 h
          omega)⟩
        obtain ⟨qk, qx, qV⟩ := q
        refine ⟨by omega, k8, by omega, fun z => ⟨k9, by omega, ?_⟩, fun z => ?_⟩
        · rcases p3 with ⟨r1, r2, r3, r4, r5⟩ | ⟨r1, r2, r3, r4⟩
          · have r1 : qV = .null := r1
            subst r1
            have r3 : aI c (w + 4) K.length = qk := r3
            have r4 : -2147483647 ≤ qk := r4
            have r5 : qk ≤ 127 := r5
            rw [r3]
            refine ⟨fun h => ?_, fun h => ⟨by omega, ?_⟩⟩
            · refine add_c hw2 p5 p6 (by omega) (fun e e1 e2 e3 => nxt e1 e2 e3 ?_ (fun h => ?_) (pB_len qk o).1)
              · rw [← hr, runK_c, apK_c h]
              · have := (pB_len qk o).2 h; omega
            · have ng : ¬ 0 ≤ qk := by omega
              refine num_c (d := d + 2) hw2 p5 p6 (by omega) (fun e e1 e2 e3 => nxt e1 e2 e3 ?_ (fun h => ?_) (pN_len _ o))
              · rw [← hr, runK_c, apK_n ng]
              · have := pN_lt (-1 - qk) o h; omega
          · exact absurd z r3
        · rcases p3 with ⟨r1, r2, r3, r4, r5⟩ | ⟨r1, r2, r3, r4⟩
          · exact absurd r2 z
          · refine one_c (d := d) hP hw2 hN2 p5 p6 (fun h => by have := (hl h).2; simp only [List.length_cons] at this; omega) ⟨r1, r2⟩ (DV.wx p4 hw.1.1 r4) (fun e o' K' e1 e2 e3 e4 => nxt e1 e2 e3 ?_ (fun h => e4.2.1 h) ?_)
            · rw [e4.1, ← hr, runK_c, apK_v r1]
            · exact e4.2.2
theorem written_c {F : SC → Prop} (hP : ∀ a, P a → a ≠ 2) (hw : WRC c w) (hN : NDW A c s) (hV : isV V = true ∧ VB s V) (hv : DV A c P V a []) (hF : ∀ e, WX w c e → WO A P e w (wrt s V) → F e) : ck iv L h0 (d + 5) 247 [vr w, vr a] c (qv F) := by
  have hx : WX w c (uI (uI (uI c w 3 0) w 1 0) w 6 0) := ((WX.rf.uI (Or.inr (Or.inl rfl))).uI (Or.inl rfl)).uI (Or.inr (Or.inr rfl))
  have e3 : fI (uI (uI (uI c w 3 0) w 1 0) w 6 0) w 3 = 0 := by simp [fI_uI]
  have e1 : fI (uI (uI (uI c w 3 0) w 1 0) w 6 0) w 1 = 0 := by simp [fI_uI]
  have e6 : fI (uI (uI (uI c w 3 0) w 1 0) w 6 0) w 6 = 0 := by simp [fI_uI]
  have hw1 := hw.x hx
  refine C247 ⟨hw.1.1, ?_⟩
  generalize uI (uI (uI c w 3 0) w 1 0) w 6 0 = u at *
  have ho : WO A P u w ([], []) := ⟨⟨⟨e3, by decide⟩, fun k x h => by simp at h⟩, ⟨e1, by decide⟩, fun k x h => by simp at h⟩
  have hk : WK A P u w s [] := ⟨⟨e6, by decide⟩, fun k q h => by simp at h⟩
  have hv1 := DV.wx hx hw.1.1 hv
  refine later_v hw1 ho hk hV ⟨hP _ (DV_kind hV.1 hv1).1.1, hv1⟩ (fun e K' h1 h2 h3 h4 => ?_)
  have h4 := h4 (by decide)
  subst h4
  refine loop_w (T := wrt s V) (c0 := c) hP hF 400 0 e ([], []) _ (Int.le_refl _) rfl (hx.tr h1) (hw1.x h1) ((hN.wx hx hw.1.1).wx h1 hw1.1.1) h2 h3 ?_ (fun _ => ⟨by decide, by simp⟩)
  show apK (s.2 9) (0, a, V) ([], []) = _
  exact apK_v hV.1 0 a ([], [])
end
end
