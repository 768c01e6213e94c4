/-! Writing by the desk: words, one thing of what is to be written (C250 to C254). -/
def apK (so : Int → Int) (q : Int × Nat × Term) (o : List Int × List Term) : List Int × List Term := match q.2.2 with
  | .null => if 0 ≤ q.1 then pB q.1 o else pN (-1 - q.1) o
  | V => outT so V o
def runK (so : Int → Int) (K : List (Int × Nat × Term)) (o : List Int × List Term) : List Int × List Term := K.foldl (fun o q => apK so q o) o
theorem apK_v {so : Int → Int} {V : Term} (h : isV V = true) (k : Int) (x : Nat) (o : List Int × List Term) : apK so (k, x, V) o = outT so V o := by
  cases V <;> first | rfl | cases h
theorem apK_c {so : Int → Int} {k : Int} (h : 0 ≤ k) (x : Nat) (o : List Int × List Term) : apK so (k, x, .null) o = pB k o := if_pos h
theorem apK_n {so : Int → Int} {k : Int} (h : ¬ 0 ≤ k) (x : Nat) (o : List Int × List Term) : apK so (k, x, .null) o = pN (-1 - k) o := if_neg h
theorem runK_c (so : Int → Int) (q : Int × Nat × Term) (K : List (Int × Nat × Term)) (o : List Int × List Term) : runK so (q :: K) o = runK so K (apK so q o) := rfl
theorem outB_full {o : List Int} (h : o.length = 400) (x : Int) : outB o x = o := if_pos (by omega)
theorem fold_full {α : Type} (f : α → Int) {o : List Int} (h : o.length = 400) : ∀ (m : List α), m.foldl (fun o c => outB o (f c)) o = o := by
  intro m
  induction m with
  | nil => rfl
  | cons a m ih => show m.foldl (fun o c => outB o (f c)) (outB o (f a)) = o; rw [outB_full h]; exact ih
theorem pB_full {o : List Int × List Term} (h : o.1.length = 400) (x : Int) : pB x o = o := by unfold pB; rw [outB_full h]
theorem pN_full {o : List Int × List Term} (h : o.1.length = 400) (z : Int) : pN z o = o := by
  unfold pN outN
  rw [outB_full h, ite_self, fold_full (fun x => 48 + x) h]
theorem pW_full {o : List Int × List Term} (h : o.1.length = 400) (a : Nat) : pW a o = o := by
  unfold pW outW
  rw [fold_full (fun c : Int32 => c.toInt) h]
theorem outT_full {so : Int → Int} {o : List Int × List Term} (h : o.1.length = 400) (V : Term) : outT so V o = o := by
  have g : ∀ x, gd o x = o := fun x => if_pos h
  cases V with
  | int z => exact g _
  | arg z => exact g _
  | index z => exact g _
  | sub b E => cases b <;> first | rfl | exact g _
  | add x y => exact g _
  | div b E => cases b <;> first | rfl | exact g _
  | length x => exact g _
  | rem b z =>
    cases b with
    | index b =>
      cases z with
      | elem x z =>
        cases z with
        | elem y E => exact g _
        | _ => rfl
      | _ => rfl
    | _ => rfl
  | _ => rfl
theorem runK_full {so : Int → Int} : ∀ (K : List (Int × Nat × Term)) (o : List Int × List Term), o.1.length = 400 → runK so K o = o := by
  intro K
  induction K with
  | nil => intro o _; rfl
  | cons q K ih =>
    intro o h
    rw [runK_c]
    have : apK so q o = o := by
      obtain ⟨k, x, V⟩ := q
      cases V <;> first | (exact outT_full h _) | (by_cases hk : 0 ≤ k; exact (apK_c hk x o).trans (pB_full h _); exact (apK_n hk x o).trans (pN_full h _))
    rw [this]
    exact ih o h
theorem words_eq : strT 9 = strT 19 ∧ strT 10 = strT 20 ∧ strT 11 = strT 21 ∧ strT 12 = strT 22 ∧ strT 13 = strT 23 ∧ strT 14 = strT 24 ∧ strT 15 = strT 25 ∧ strT 16 = strT 26 ∧ strT 17 = strT 27 ∧ strT 18 = strT 28 := by decide +kernel
theorem words_in : ∀ a, a < 10 → ((strT (a + 9)).all fun c => decide (0 ≤ c.toInt ∧ c.toInt ≤ 127)) = true ∧ 1 ≤ (strT (a + 9)).length := by decide +kernel
section
variable {iv : List (Int × Int)} {L : Nat} {h0 : MH} {A A' : Int → Nat} {P Q : Nat → Prop} {c c0 e f : SC} {s s' : SM} {t : Term} {d p a w n : Nat} {x z : Int} {V : Term} {o : List Int × List Term} {K : List (Int × Nat × Term)} {l : List (Int × Nat)}
theorem text_at {F : SC → Prop} (ha : 8 ≤ a ∧ a < 8 + NS0) : ∀ (m p : List Int32) (o : List Int × List Term) (c : SC), strT a = p ++ m → (∀ q, q ∈ m → 0 ≤ q.toInt ∧ q.toInt ≤ 127) → WRC c w → WO A P c w o → WK A P c w s K → (∀ e, WX w c e → WO A P e w (m.foldl (fun o c => outB o c.toInt) o.1, o.2) → WK A P e w s K → F e) → wk iv L h0 (d + 1) 250 2 [lr w, lr a, li p.length] [] c (qv F) := by
  intro m
  induction m with
  | nil =>
    intro p o c e _ hw ho hk hF
    have el : slen a = p.length := by unfold slen; rw [e]; simp
    exact C250_2 ⟨ha, fun _ => hF c WX.rf ho hk, fun q => by omega⟩
  | cons b m ih =>
    intro p o c e hm hw ho hk hF
    have hb := (str_at (L := L) ha).2
    have el : slen a = p.length + (m.length + 1) := by unfold slen; rw [e]; simp
    have ec : scat a p.length = b.toInt := by unfold scat; rw [e]; simp
    have e' : strT a = (p ++ [b]) ++ m := by rw [e]; simp
    have el2 : ((p ++ [b]).length : Int) = p.length + 1 := by simp
    have hs : slen a ≤ 100 := by unfold slen; omega
    refine C250_2 ⟨ha, fun q => by omega, fun _ => ⟨by omega, hw.1.1, ?_⟩⟩
    rw [ec]
    have hb2 := hm b (List.mem_cons_self ..)
    refine add_c hw ho hk (by omega) (fun e1 h1 h2 h3 => ⟨by omega, ?_⟩)
    have := ih (p ++ [b]) _ e1 e' (fun q hq => hm q (List.mem_cons_of_mem _ hq)) (hw.x h1) h2 h3 (fun u u1 u2 u3 => hF u (h1.tr u1) u2 u3)
    rw [el2] at this
    exact this
theorem text_c {F : SC → Prop} (ha : 9 ≤ a ∧ a < 19) (hw : WRC c w) (ho : WO A P c w o) (hk : WK A P c w s K) (hF : ∀ e, WX w c e → WO A P e w (pW a o) → WK A P e w s K → F e) : ck iv L h0 (d + 1) 250 [vr w, vr a] c (qv F) := by
  have hn0 : 19 ≤ 8 + NS0 := by decide
  have hn : 8 ≤ a ∧ a < 8 + NS0 := ⟨by omega, by omega⟩
  have hi := (words_in (a - 9) (by omega)).1
  rw [show a - 9 + 9 = a by omega] at hi
  refine C250 (text_at hn (strT a) [] o c rfl (fun q hq => ?_) hw ho hk (fun e h1 h2 h3 => hF e h1 h2 h3))
  exact of_decide_eq_true (List.all_eq_true.mp hi q hq)
theorem pW_eq {a b : Nat} (h : strT a = strT b) (o : List Int × List Term) : pW a o = pW b o := by unfold pW outW; rw [h]
theorem word_c {k : Int} {F : Nat → SC → Prop} (hF : ∀ a, 9 ≤ a ∧ a < 19 → (∀ o, pW a o = pW (wrd k) o) → (∀ o : List Int × List Term, o.1.length < 400 → o.1.length < (pW a o).1.length) → F a c) : ck iv L h0 d 254 [vi k] c (qa F) := by
  obtain ⟨-, -, w1, w2, w3, w4, w5, w6, w7, w8⟩ := words_eq
  have ln : ∀ a, 9 ≤ a ∧ a < 19 → ∀ o : List Int × List Term, o.1.length < 400 → o.1.length < (pW a o).1.length := fun a ha o ho => by
    have h1 := (words_in (a - 9) (by omega)).2
    rw [show a - 9 + 9 = a by omega] at h1
    show o.1.length < (outW a o.1).length
    unfold outW
    cases h : strT a with
    | nil => rw [h] at h1; simp at h1
    | cons b m =>
      show o.1.length < (m.foldl (fun o c => outB o c.toInt) (outB o.1 b.toInt)).length
      have := fold_ge (fun c : Int32 => c.toInt) m (outB o.1 b.toInt)
      have := (outB_len o.1 b.toInt).2.1 ho
      omega
  refine C254 ⟨fun q => ?_, fun q => ?_, fun q => ?_, fun q => ?_, fun q => ?_, fun q => ?_, fun q => ?_, fun q => ?_⟩
  · exact hF 11 (by decide) (fun o => by rw [q]; exact pW_eq w1 o) (ln 11 (by decide))
  · exact hF 12 (by decide) (fun o => by rw [q]; exact pW_eq w2 o) (ln 12 (by decide))
  · exact hF 13 (by decide) (fun o => by rw [q]; exact pW_eq w3 o) (ln 13 (by decide))
  · exact hF 14 (by decide) (fun o => by rw [q]; exact pW_eq w4 o) (ln 14 (by decide))
  · refine hF 18 (by decide) (fun o => ?_) (ln 18 (by decide))
    unfold wrd
    rw [if_neg (by omega), if_neg (by omega), if_neg (by omega), if_neg (by omega), if_neg (by omega), if_neg (by omega), if_neg (by omega)]
    exact pW_eq w8 o
  · exact hF 15 (by decide) (fun o => by rw [q]; exact pW_eq w5 o) (ln 15 (by decide))
  · exact hF 16 (by decide) (fun o => by rw [q]; exact pW_eq w6 o) (ln 16 (by decide))
  · exact hF 17 (by decide) (fun o => by rw [q]; exact pW_eq w7 o) (ln 17 (by decide))
/-- one thing more, if there is room -/
theorem later_w {q : Int × Nat × Term} {F : SC → Prop} (hw : WRC c w) (ho : WO A P c w o) (hk : WK A P c w s K) (hq : (q.2.2 = .null ∧ q.2.1 = 2 ∧ -2147483647 ≤ q.1 ∧ q.1 ≤ 127) ∨ (isV q.2.2 = true ∧ VB s q.2.2 ∧ q.2.1 ≠ 2 ∧ DV A c P q.2.2 q.2.1 [])) (hF : ∀ e K', WX w c e → WO A P e w o → WK A P e w s K' → (K.length < 2005 → K' = q :: K) → F e) : ck iv L h0 d 248 [vr w, vr q.2.1, vi q.1] c (qv F) := by
  by_cases hl : K.length < 2005
  · exact later_c hw ho hk hl hq (fun e h1 h2 h3 => hF e _ h1 h2 h3 (fun _ => rfl))
  · exact C248 ⟨hw.1.1, fun _ => hF c K WX.rf ho hk (fun w => absurd w hl), fun r => by have := hk.1; omega⟩
/-- a hole is noted, its mark is written -/
theorem hole_w {F : SC → Prop} (hw : WRC c w) (ho : WO A P c w o) (hk : WK A P c w s K) (hl : o.1.length < 400) (hV0 : isW V = true ∧ isV V = true ∧ DV A c P V a []) (hF : ∀ e, WX w c e → WO A P e w (pB 63 (o.1, o.2 ++ [V])) → WK A P e w s K → F e) : (fI c w 3 < 400 → (-2147483648 ≤ (fI c w 1) + 1 ∧ (fI c w 1) + 1 ≤ 2147483647) ∧ (kl c (fR c w 0) = 106) ∧ (0 ≤ fI c w 1 ∧ fI c w 1 < le c (fR c w 0)) ∧ (a = 2 ∨ kl c a = 10) ∧ ck iv L h0 d 249 [vr w, vi 63] (uB (uI c w 1 ((fI c w 1) + 1)) (fR c w 0) (fI c w 1) a) (qv F)) := fun _ => by
  obtain ⟨⟨k1, k2, k3, k4, k5⟩, ⟨k6, k7, k8, k9⟩, k10, k11, k12, k13⟩ := id hw
  obtain ⟨⟨⟨o1, o2⟩, o3⟩, ⟨o4, o5⟩, o6⟩ := id ho
  rw [k2]
  refine ⟨by omega, k6, by omega, Or.inr (DV_kind hV0.2.1 hV0.2.2).1.2, ?_⟩
  generalize hu : uB (uI c w 1 (fI c w 1 + 1)) (w + 1) (fI c w 1) a = u
  have hX0 : WX w c u := by rw [← hu]; exact (WX.rf.uI (Or.inl rfl)).uB ⟨by omega, by omega⟩
  have u3 : fI u w 3 = fI c w 3 := by rw [← hu, fI_uB, fI_uI, if_neg (by omega)]
  have u1 : fI u w 1 = fI c w 1 + 1 := by rw [← hu, fI_uB, fI_uI, if_pos ⟨rfl, rfl⟩]
  have u6 : fI u w 6 = fI c w 6 := by rw [← hu, fI_uB, fI_uI, if_neg (by omega)]
  have uB1 : ∀ k : Int, aR u (w + 1) k = if k = fI c w 1 then a else aR c (w + 1) k := fun k => by rw [← hu, aR_uB, aR_uI]; simp
  have uB3 : aR u (w + 3) = aR c (w + 3) := by funext k; rw [← hu, aR_uB, aR_uI, if_neg (by omega)]
  have uI2 : aI u = aI c := by rw [← hu]; rfl
  have hwu := hw.x hX0
  clear hu
  refine C249 ⟨hwu.1.1, fun q => by omega, fun q => ?_⟩
  rw [hwu.1.2.2.1, u3]
  have hX : WX w c (uA (uI u w 3 (fI c w 3 + 1)) (w + 2) (fI c w 3) 63) := (hX0.uI (Or.inr (Or.inl rfl))).uA ⟨by omega, by omega⟩
  have el : (outB o.1 63).length = o.1.length + 1 := (outB_len o.1 63).2.1 hl
  refine ⟨by omega, hwu.2.1.2.1, ⟨by omega, by rw [hwu.2.2.2.1]; omega⟩, hF _ hX ⟨⟨⟨?_, ?_⟩, fun k y hy => ?_⟩, ⟨?_, ?_⟩, fun k V hV => ?_⟩ ⟨⟨?_, hk.1.2⟩, fun k q hq => ?_⟩⟩
  · show fI (uI u w 3 (fI c w 3 + 1)) w 3 = ((outB o.1 63).length : Int)
    rw [fI_uI, if_pos ⟨rfl, rfl⟩]
    omega
  · show (outB o.1 63).length ≤ 400
    omega
  · have hy : (outB o.1 63)[k]? = some y := hy
    unfold outB at hy
    rw [if_neg (by omega), w8_id (by decide) (by decide)] at hy
    show (if w + 2 = w + 2 ∧ (k : Int) = fI c w 3 then 63 else aI u (w + 2) k) = y
    rcases app_at hy with hy | ⟨rfl, rfl⟩
    · have := (List.getElem?_eq_some_iff.mp hy).1
      rw [if_neg (by omega), uI2]
      exact o3 k y hy
    · rw [if_pos ⟨rfl, by omega⟩]
  · show fI (uI u w 3 (fI c w 3 + 1)) w 1 = ((o.2 ++ [_]).length : Int)
    rw [fI_uI, if_neg (by omega), u1]
    simp; omega
  · show (o.2 ++ [_]).length ≤ (outB o.1 63).length
    simp; omega
  · rw [aR_uA, aR_uI, uB1]
    rcases app_at (show (o.2 ++ [_])[k]? = some V from hV) with hV | ⟨rfl, rfl⟩
    · have := (List.getElem?_eq_some_iff.mp hV).1
      rw [if_neg (by omega)]
      exact ⟨DV.wx hX k1 (o6 k V hV).1, (o6 k V hV).2⟩
    · rw [if_pos (by omega)]
      exact ⟨DV.wx hX k1 hV0.2.2, hV0.1⟩
  · show fI (uI u w 3 (fI c w 3 + 1)) w 6 = _
    rw [fI_uI, if_neg (by omega), u6]
    exact hk.1.1
  · obtain ⟨q1, q2⟩ := hk.2 k q hq
    have e4 : aI (uA (uI u w 3 (fI c w 3 + 1)) (w + 2) (fI c w 3) 63) (w + 4) k = aI c (w + 4) k := by rw [aI_uA, if_neg (by omega), aI_uI, uI2]
    rw [aR_uA, aR_uI, uB3, e4]
    exact ⟨q1, q2.imp id (fun z => ⟨z.1, z.2.1, z.2.2.1, DV.wx hX k1 z.2.2.2⟩)⟩
end
