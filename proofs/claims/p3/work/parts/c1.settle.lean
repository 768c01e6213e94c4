/-! The desk lists its sheet and judges it. -/
/-- rows of the desk for judging, the rest from elsewhere -/
def mx (A : Int → Nat) (c : SC) (s : SM) : SM := (fun y => if y = 2 then fI c 65 4 else if y = 3 then fI c 65 5 else s.1 y, fun f => if f = 4 then aI c 66 else if f = 5 then aI c 67 else if f = 6 then aI c 68 else if f = 7 then aI c 69 else if f = 19 then (fun b => fI c (A b) 9) else if f = 20 then (fun b => fI c (A b) 8) else if f = 21 then (fun b => fI c (A b) 10) else s.2 f)
def KJc (c : SC) : Prop := KJ (fI c 65 4) (fI c 65 5) (aI c 66) (aI c 67) (aI c 68) (aI c 69)
def vkc (c : SC) (k : Int) : Prop := vk (fI c 65 4) (fI c 65 5) k
def ktc (c : SC) (k : Int) : Term := kt (aI c 66) (aI c 67) (aI c 68) k
/-- kinds that were told are the same -/
def KIc (c : SC) (s : SM) : Prop := fI c 65 4 = s.1 2 ∧ ∀ k, 0 ≤ k → k < s.1 2 → aI c 66 k = s.2 4 k ∧ aI c 67 k = s.2 5 k ∧ aI c 68 k = s.2 6 k ∧ aI c 69 k = s.2 7 k
def aKc (c : SC) (a : Int) (A : Option Term) : Prop := match A with
  | none => a = -1
  | some t => vkc c a ∧ ktc c a = t
/-- what was judged stands at the nodes -/
def JUc (A : Int → Nat) (c : SC) (s : SM) (t : Term) : Prop := KJc c ∧ fI c 65 5 ≤ 1240 ∧ ∀ x, x ∈ fl t → (vkc c (fI c (A x) 9) ∧ ktc c (fI c (A x) 9) = (jdg s t).1 x) ∧ aKc c (fI c (A x) 8) ((jdg s t).2.1 x) ∧ fI c (A x) 10 = (jdg s t).2.2 x ∧ 0 ≤ (jdg s t).2.2 x ∧ (jdg s t).2.2 x ≤ 6
theorem KI_lt {n : Int} {ks ka kb sz ks' ka' kb' sz' : Int → Int} (h : KI n ks ka kb sz) (he : ∀ k, 0 ≤ k → k < n → ks' k = ks k ∧ ka' k = ka k ∧ kb' k = kb k ∧ sz' k = sz k) : KI n ks' ka' kb' sz' := by
  obtain ⟨h1, h2, h3⟩ := h
  refine ⟨h1, fun k k0 k3 => ?_, fun k k3 kn => ?_⟩
  · obtain ⟨e1, e2, e3, e4⟩ := he k k0 (by omega)
    rw [e1, e2, e3, e4]
    exact h2 k k0 k3
  · obtain ⟨q1, q2, q3, q4, q5⟩ := h3 k k3 kn
    obtain ⟨e1, e2, e3, e4⟩ := he k (by omega) kn
    rw [e1, e2, e3, e4, (he (ka k) (by omega) (by omega)).2.2.2, (he (kb k) (by omega) (by omega)).2.2.2]
    exact ⟨q1, q2, q3, q4, q5⟩
/-- kinds by rows that agree -/
theorem kt_lt {n : Int} {ks ka kb sz ks' ka' kb' : Int → Int} (h : KI n ks ka kb sz) (he : ∀ k, 0 ≤ k → k < n → ks' k = ks k ∧ ka' k = ka k ∧ kb' k = kb k) : ∀ k, 0 ≤ k → k < n → kt ks' ka' kb' k = kt ks ka kb k := by
  have key : ∀ (q : Nat) (k : Int), 0 ≤ k → k < n → kd ks' ka' kb' q k = kd ks ka kb q k := by
    intro q
    induction q with
    | zero => intro k _ _; rfl
    | succ q ih =>
      intro k k0 kn
      obtain ⟨e1, e2, e3⟩ := he k k0 kn
      rw [kd_s, kd_s, e1, e2, e3]
      by_cases h3 : k < 3
      · obtain ⟨f1, -⟩ := h.2.1 k k0 h3
        by_cases e0 : ks k = 0
        · rw [if_pos e0, if_pos e0]
        · by_cases e1 : ks k = 1
          · rw [if_neg e0, if_neg e0, if_pos e1, if_pos e1]
          · rw [if_neg e0, if_neg e0, if_neg e1, if_neg e1, if_pos (by omega), if_pos (by omega)]
      · obtain ⟨g1, g2, g3, -⟩ := h.2.2 k (by omega) kn
        rw [ih _ g2.1 (by omega), ih _ g3.1 (by omega)]
  intro k k0 kn
  exact key 40 k k0 kn
section
variable {iv : List (Int × Int)} {L : Nat} {h0 : MH} {A : Int → Nat} {c e : SC} {s : SM} {t : Term} {d : Nat}
theorem KIc.KI (h : KIc c s) (hK : KIs s) : KI (fI c 65 4) (aI c 66) (aI c 67) (aI c 68) (aI c 69) := by
  rw [h.1]
  exact KI_lt hK h.2
theorem KIc.kks (h : KIc c s) (hK : KIs s) {k : Int} (h0 : 0 ≤ k) (hk : k < s.1 2) : ktc c k = kks s k := by
  rw [kks_told ⟨h0, hk⟩]
  exact kt_lt hK (fun k k0 kn => by
    obtain ⟨e1, e2, e3, -⟩ := h.2 k k0 kn
    exact ⟨e1, e2, e3⟩) k h0 hk
/-- the tree as a place to judge -/
theorem js_of (hX : FIX c) (hN : ND A c s) (hH : HG A c s t) (h : SHT s t) : JS A (fun x => x ∈ fl t) c s := by
  refine ⟨⟨A9 hN, fun b b' hb hb' e => hN.inj (h.m _ hb') e⟩, fun b hb => ?_⟩
  obtain ⟨⟨n1, n2, n3, n4, n5, n6, n7, n8⟩, n9, n10⟩ := hN.2 b (h.m b hb).1 (h.m b hb).2
  obtain ⟨q1, q2, q3⟩ := hH.1 b hb
  refine ⟨⟨(hN.ne (h.m b hb)).2, n1, n2, n3⟩, ⟨n5, n8, n6, n7⟩, ⟨q1, fun q => q2 (fun e => q (by rw [e]; exact h.2.2.2.2.2.2.1)), ?_⟩, fun i i0 i1 => ⟨q3 i i0 i1, ?_⟩⟩
  · by_cases e : b = hd t
    · left; rw [e]; exact h.2.2.2.2.2.2.1
    · right; exact h.up9 hb e
  · exact ((AT_mem t h.1 b hb).2.2.1 i i0 i1 (fun e => by have := h.2.1; unfold full at this; rw [e] at i1; omega)).1
theorem judgeAll_ok {F : SC → Prop} (hX : FIX c) (hN : ND A c s) (hH : HG A c s t) (h : SHT s t) (hB : NB s) (hK : KIs s) (hI : KIc c s) (hD : 230 ≤ d) (hF : ∀ e, CX jys jrs c e → RMk 0 0 c e → KIc e s → JUc A e s t → F e) : ck iv L h0 d 163 [vr 175, vr (A (hd t))] c (qv F) := by
  obtain ⟨d, rfl⟩ : ∃ k, d = k + 1 := ⟨d - 1, by omega⟩
  have hk : kl c 175 = 3 ∧ kl c 65 = 4 ∧ fR c 175 0 = 65 := by simp only [hX.1]; exact ⟨trivial, trivial, trivial⟩
  refine C163 ⟨hk.1, by rw [hk.2.2]; exact hk.2.1, ?_⟩
  rw [hk.2.2]
  refine C180 ⟨hk.2.1, hk.1, ?_⟩
  generalize hf : uI c 65 5 40 = f
  have hXf : FIX f := by rw [← hf]; exact hX
  have hx0 : CX jys jrs c f := by rw [← hf]; exact CX.rf.uI (fun _ => by rw [hk.2.1]; decide)
  have hNf : ND A f s := hN.x hx0 (by decide) (by decide) (by decide) (by decide) (by decide)
  have hHf : HG A f s t := hH.x hN h.m hX hx0 (by decide) (by decide) (by decide) (by decide)
  have f4 : fI f 65 4 = s.1 2 := by rw [← hf, fI_uI, if_neg (by omega)]; exact hI.1
  have f5 : fI f 65 5 = 40 := by rw [← hf, fI_uI, if_pos ⟨rfl, rfl⟩]
  have hIf : KIc f s := ⟨f4, by rw [← hf]; exact hI.2⟩
  have hKI := hIf.KI hK
  have hSJ : KJs (mx A f s) := by
    show KJ (fI f 65 4) (fI f 65 5) (aI f 66) (aI f 67) (aI f 68) (aI f 69)
    exact ⟨hKI, by omega, fun k k1 k2 => by omega⟩
  have hv : VJ A (fun x => x ∈ fl t) (fun _ => none) f (mx A f s) := ⟨hXf, js_of hXf hNf hHf h, fun b _ => ⟨rfl, rfl, rfl⟩, ⟨rfl, rfl⟩, rfl, rfl, rfl, rfl⟩
  have hdp := dpt_len t h.1
  have hl := h.2.2.2.1
  have hB8 := h.2.2.2.2.1
  have hT : PRT (mx A f s) t := ⟨AT_B (show s.1 8 ≤ 3004 by omega) t h.1, h.2.1, h.2.2.1, fun x hx q => by
    have := (hB x (h.lt hx).1 (h.lt hx).2.1).2.2.2 q
    show 0 ≤ s.2 11 x ∧ s.2 11 x < fI f 65 4
    rw [f4]; exact this, fun x hx => DP_up 61 70 _ (by omega) (DP_tree h x hx)⟩
  have hP : PRJ (mx A f s) (hd t) (fl t) J0 (fun _ => False) := ⟨hSJ, fun x => Or.inl (by
    show bnd (s.2 9) (s.2 10) (s.2 12) (s.2 13) 70 (hd t) x = -9
    unfold bnd
    rw [if_pos h.2.2.2.2.2.2.1]), fun x q => q.elim, fun x q => q.elim⟩
  have h3 : (mx A f s).1 3 = 40 := f5
  have spec := jsp_alld (iv := iv) (L := L) (h0 := h0) (Ad := A) (Tn := fun x => x ∈ fl t) (dpt t) (fun _ => none) t (mx A f s) (-1) none J0 (fun _ => False) (Nat.le_refl _) hT hP rfl (by rw [h3]; omega) ⟨fun _ q => q, fun x q => absurd rfl q⟩
  refine inQ (spec f 0 hv (Int.le_refl _) (by omega)) (by omega) ?_
  rintro r e w hvw ⟨hxw, hrw⟩ ⟨p1, p2, p3, p4⟩
  have hjd : (jds (mx A f s) t none J0).1 = jdg s t := by
    show jdg (mx A f s) t = jdg s t
    refine jdg_un h.w ⟨AT_B (show s.1 8 ≤ 3004 by omega) t h.1, h.2.1, h.2.2.1, h.2.2.2.2.2.1, h.2.2.2.2.2.2.1, h.2.2.2.2.2.2.2⟩ (fun x _ => ⟨rfl, rfl, rfl⟩) (fun x hx q => ?_)
    have hq := (hB x (h.lt hx).1 (h.lt hx).2.1).2.2.2 q
    rw [kks_told (s := mx A f s) ⟨hq.1, by show s.2 11 x < fI f 65 4; rw [f4]; exact hq.2⟩, ← hIf.kks hK hq.1 hq.2]
    rfl
  rw [hjd] at p4
  obtain ⟨hXe, -, hJe, ⟨g1, g2⟩, g4, g5, g6, g7⟩ := hvw
  have w2 : w.1 2 = s.1 2 := (p1.1.1 2 (by decide)).trans f4
  refine hF e (hx0.tr hxw) ⟨by have := hrw.1; rw [← hf] at this; exact this, by have := hrw.2; rw [← hf] at this; exact this⟩ ⟨g1.trans w2, fun k k0 kn => ?_⟩ ⟨?_, ?_, fun x hx => ?_⟩
  · rw [g4, g5, g6, g7]
    obtain ⟨q1, q2, q3, q4⟩ := p1.2.2.1.2.2 k (by rw [h3]; have := hK.1; omega)
    obtain ⟨o1, o2, o3, o4⟩ := hIf.2 k k0 kn
    exact ⟨q1.trans o1, q2.trans o2, q3.trans o3, q4.trans o4⟩
  · unfold KJc
    rw [g1, g2, g4, g5, g6, g7]
    exact p1.2.1
  · rw [g2]
    rw [h3] at p2
    omega
  · obtain ⟨⟨r1, r2⟩, r3, r4⟩ := p4 x (Or.inr hx)
    obtain ⟨j1, j2, j3⟩ := hJe x hx
    have j3 : fI e (A x) 10 = w.2 21 x := j3
    have hvk : ∀ k, vkc e k ↔ vks w k := fun k => by unfold vkc vks; rw [g1, g2]
    have hkt : ∀ k, ktc e k = kts w k := fun k => by unfold ktc kts; rw [g4, g5, g6]
    rw [j1, j2, j3]
    refine ⟨⟨(hvk _).mpr r1, (hkt _).trans r2⟩, ?_, r4⟩
    cases hA : (jdg s t).2.1 x with
    | none => rw [hA] at r3; exact r3
    | some T => rw [hA] at r3; exact ⟨(hvk _).mpr r3.1, (hkt _).trans r3.2⟩
def sys : List (Nat × Nat) := [(5, 7), (8, 3), (5, 8), (5, 9), (5, 10), (25, 8), (25, 9), (25, 10), (4, 5)]
def srs : List Nat := [71, 66, 67, 68, 69]
theorem settle_ok {F : SC → Prop} (hX : FIX c) (hN : ND A c s) (hH : HG A c s t) (h : SHT s t) (hB : NB s) (hK : KIs s) (hI : KIc c s) (hD : 231 ≤ d) (hF : ∀ e, CX sys srs c e → RMk 0 0 c e → LST A e t → KIc e s → JUc A e s t → F e) : ck iv L h0 d 51 [vr 64] c (qv F) := by
  obtain ⟨d, rfl⟩ : ∃ k, d = k + 1 + 2 := ⟨d - 3, by omega⟩
  have hk : kl c 64 = 1 ∧ kl c 70 = 8 ∧ fR c 64 1 = 70 := by simp only [hX.1]; exact ⟨trivial, trivial, trivial⟩
  refine C51 ⟨hk.1, by rw [hk.2.2]; exact hk.2.1, ?_⟩
  rw [hk.2.2]
  refine list_ok hX hN hH h (fun f hx hr hL => ?_)
  have hXf := hX.x hx (by decide) (by decide)
  have hk : kl f 64 = 1 ∧ kl f 70 = 8 ∧ fR f 64 1 = 70 ∧ fR f 64 2 = 175 ∧ kl f 175 = 3 := by simp only [hXf.1]; exact ⟨trivial, trivial, trivial, trivial, trivial⟩
  have hNf := hN.x hx (by decide) (by decide) (by decide) (by decide) (by decide)
  have hHf := hH.x hN h.m hX hx (by decide) (by decide) (by decide) (by decide)
  have h353 := hX.2.2.1
  have hk65 : kl c 65 = 4 := by simp only [hX.1]
  have hIf : KIc f s := by
    have ar : ∀ a, 66 ≤ a → a ≤ 69 → aI f a = aI c a := fun a a1 a2 => hx.ai (by omega) (by unfold rk; rw [if_pos (by omega)]; simp; omega)
    refine ⟨(hx.i (by omega) (by rw [hk65]; decide)).trans hI.1, fun k k0 kn => ?_⟩
    rw [ar 66 (by decide) (by decide), ar 67 (by decide) (by decide), ar 68 (by decide) (by decide), ar 69 (by decide) (by decide)]
    exact hI.2 k k0 kn
  refine ⟨hk.1, by rw [hk.2.2.1]; exact hk.2.1, by rw [hk.2.2.2.1]; exact hk.2.2.2.2, ?_⟩
  rw [hk.2.2.2.1, hk.2.2.1, hHf.2]
  refine judgeAll_ok hXf hNf hHf h hB hK hIf (by omega) (fun e hx2 hr2 hI2 hJ2 => ?_)
  refine hF e ((hx.up (by decide) (by decide)).tr (hx2.up (by decide) (by decide))) (hr.tr hr2) (hL.x hNf h.m hXf hx2 (by decide) (by decide) (by decide)) hI2 hJ2
end
