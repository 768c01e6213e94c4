/-! What the reference tells of its tree. -/
theorem jds_e {s w : SM} (h9 : w.2 9 = s.2 9) (h10 : w.2 10 = s.2 10) (h11 : w.2 11 = s.2 11) (h12 : w.2 12 = s.2 12) (h13 : w.2 13 = s.2 13) (h14 : w.2 14 = s.2 14) (h2 : w.1 2 = s.1 2) (hk : ∀ k, 0 ≤ k → k < s.1 2 → kts w k = kts s k) : jds w = jds s := by
  funext t A J
  have ek : kks w = kks s := by
    funext k
    unfold kks
    rw [h2]
    by_cases e : 0 ≤ k ∧ k < s.1 2
    · rw [if_pos e, if_pos e]; exact hk k e.1 e.2
    · rw [if_neg e, if_neg e]
  have eb : bds w = bds s := by
    funext b x
    show bnd (w.2 9) (w.2 10) (w.2 12) (w.2 13) 70 b x = _
    rw [h9, h10, h12, h13]
  unfold jds
  rw [h9, h10, h11, h14, ek, eb]
theorem jdg_e {s w : SM} {t : Term} (h : eqx [18] [17] s w) : jdg w t = jdg s t := by
  unfold jdg
  rw [jds_e (h.2 9 (by decide)) (h.2 10 (by decide)) (h.2 11 (by decide)) (h.2 12 (by decide)) (h.2 13 (by decide)) (h.2 14 (by decide)) (h.1 2 (by decide)) (fun k _ _ => by
    show kt (w.2 4) (w.2 5) (w.2 6) k = _
    rw [h.2 4 (by decide), h.2 5 (by decide), h.2 6 (by decide)])]
theorem SX_lay {s w : SM} (h : eqx [18] [17] s w) : SX [] [] s w := SX.eq h (by decide) (by decide)
/-- laid and judged -/
def JL (s w : SM) (t : Term) : Prop := eqx [3, 18] [4, 5, 6, 7, 17, 19, 20, 21] s w ∧ SX [] [] s w ∧ LR w (fl t) ∧ (∀ x, x ∈ fl t → w.2 21 x = (jdg s t).2.2 x ∧ 0 ≤ (jdg s t).2.2 x ∧ (jdg s t).2.2 x ≤ 6) ∧ KJs w ∧ w.1 3 ≤ 6000
section
variable {iv : List (Int × Int)} {L : Nat} {h0 : MH} {s : SM} {t : Term} {d : Nat}
theorem jl_ok {F : SM → Prop} {d' : Nat} (h : SHT s t) (hN : NB s) (hK : KIs s) (hD : 230 ≤ d) (hD' : 63 ≤ d') (hF : ∀ w, JL s w t → F w) : cm iv L h0 d 86 [vr 307] s (qv fun s1 => cm iv L h0 d' 79 [vr 307] s1 (qv F)) := by
  refine judge_ok h hN hK hD (fun w hw => ?_)
  have hx := hw.sx
  refine layAll_ok (h.x hx (by decide) (by decide)) hD' (fun v h1 h2 => hF v ?_)
  have h21 : v.2 21 = w.2 21 := h1.2 21 (by decide)
  refine ⟨(hw.1.up (fun y q => by simp at q ⊢; omega) (fun y q => by simp at q ⊢; omega)).tr (h1.up (fun y q => by simp at q ⊢; omega) (fun y q => by simp at q ⊢; omega)), hx.tr (SX_lay h1), h2, fun x hx2 => ?_, ?_, ?_⟩
  · have := (hw.2.2.2.1 x hx2).2.2
    rw [h21]
    exact this
  · have hk := hw.2.2.1
    show KJ (v.1 2) (v.1 3) (v.2 4) (v.2 5) (v.2 6) (v.2 7)
    rw [h1.1 2 (by decide), h1.1 3 (by decide), h1.2 4 (by decide), h1.2 5 (by decide), h1.2 6 (by decide), h1.2 7 (by decide)]
    exact hk
  · rw [h1.1 3 (by decide)]
    exact hw.2.2.2.2
theorem judge2_ok {w : SM} {F : SM → Prop} (h : SHT s t) (hN : NB s) (hK : KIs s) (hw : eqx [18] [17] s w) (hD : 230 ≤ d) (hF : ∀ v, SX [] [] s v → KJs v → v.1 3 ≤ 6000 → JR v (jdg s t) (fun x => x ∈ fl t) → F v) : cm iv L h0 d 86 [vr 307] w (qv F) := by
  have hx := SX_lay hw
  have h8 := h.2.2.2.2.1.2
  refine judge_ok (h.x hx (by decide) (by decide)) (hN.x hx h8 (by decide) (by decide)) (KI_x hK hx (by decide) (by decide)) hD (fun v hv => hF v (hx.tr hv.sx) hv.2.2.1 hv.2.2.2.2 ?_)
  have := hv.2.2.2.1
  rw [jdg_e hw] at this
  exact this
def tldA (s : SM) (t : Term) (b k : Int) : Int := if b ∈ fl t then (if k = 0 then s.2 9 b else if k = 1 then s.2 10 b else if k = 2 then s.2 11 b else if k = 3 then s.2 12 b else if k = 4 then s.2 13 b else if k = 5 then pO (s.2 9 b) else if k = 6 then (jdg s t).2.2 b else -1) else -1
theorem told_ok {b k : Int} {F : Int → SM → Prop} (h : SHT s t) (hN : NB s) (hK : KIs s) (hD : 240 ≤ d) (hF : ∀ w, SX [] [] s w → F (tldA s t b k) w) : cm iv L h0 d 94 [vr 307, vi b, vi k] s (qi F) := by
  obtain ⟨d, rfl⟩ : ∃ k, d = k + 1 := ⟨d - 1, by omega⟩
  refine B94 (isThere_ok h (by omega) (fun w h1 h2 => ⟨fun e => ?_, fun e => ?_⟩))
  · have := hF w (SX_lay h1)
    rw [tldA, if_neg (fun q => by rw [if_pos q] at e; cases e)] at this
    exact this
  · have hb : b ∈ fl t := Classical.byContradiction fun q => by rw [if_neg q] at e; exact e rfl
    have hlt := h.lt hb
    have e0 := (AT_mem t h.1 b hb).2.1
    rw [← h1.2 9 (by decide)] at e0
    have fin : ∀ v z, SX [] [] s v → tldA s t b k = z → F z v := fun v z q1 q2 => by rw [← q2]; exact hF v q1
    have hs := SX_lay h1
    have tl : tldA s t b k = if k = 0 then s.2 9 b else if k = 1 then s.2 10 b else if k = 2 then s.2 11 b else if k = 3 then s.2 12 b else if k = 4 then s.2 13 b else if k = 5 then pO (s.2 9 b) else if k = 6 then (jdg s t).2.2 b else -1 := if_pos hb
    refine ⟨fun hk => ⟨fun q => ⟨by omega, fin w _ hs ?_⟩, fun q => ⟨by omega, fin w _ hs ?_⟩, fun q => ⟨by omega, fin w _ hs ?_⟩, fun q => ⟨by omega, fin w _ hs ?_⟩, fun q => ⟨by omega, fin w _ hs ?_⟩, fun q => ⟨by omega, e0, fin w _ hs ?_⟩, fun q => judge2_ok h hN hK h1 (by omega) (fun v v1 v2 v3 v4 => ⟨by omega, fin v _ v1 ?_⟩)⟩, fun hk => fin w _ hs ?_⟩
    · rw [tl, if_pos q, h1.2 9 (by decide)]
    · subst q; rw [tl, h1.2 10 (by decide)]; rfl
    · subst q; rw [tl, h1.2 11 (by decide)]; rfl
    · subst q; rw [tl, h1.2 12 (by decide)]; rfl
    · subst q; rw [tl, h1.2 13 (by decide)]; rfl
    · subst q; rw [tl, h1.2 9 (by decide)]; rfl
    · obtain rfl : k = 6 := by omega
      rw [tl, (v4 b hb).2.2.1]
      rfl
    · rw [tl, if_neg (by omega), if_neg (by omega), if_neg (by omega), if_neg (by omega), if_neg (by omega), if_neg (by omega), if_neg (by omega)]
/-- a part, none where it has none such -/
def parA (s : SM) (t : Term) (b i : Int) : Int := if b ∈ fl t then (if 0 ≤ i ∧ i < pO (s.2 9 b) then s.2 14 (3 * b + i) else -3) else -1
def parU (s : SM) (t : Term) (b i : Int) : SM := if b ∈ fl t ∧ ¬ (0 ≤ i ∧ i < pO (s.2 9 b)) then mtU s 2 else s
theorem CM.x {n : Int} {ey ef : List Nat} {w : SM} (h : CM n s) (hx : SX ey ef s w) (hf : 1 ∉ ef) : CM n w := fun f f0 f6 => by
  rw [hx.2 1 (by decide) hf f (by unfold scI; omega)]
  exact h f f0 f6
theorem mtU_x {ey ef : List Nat} {w : SM} {f : Int} (hx : SX ey ef s w) (hf : 1 ∉ ef) : SX ey ef (mtU s f) (mtU w f) := by
  unfold mtU
  rw [hx.2 1 (by decide) hf f (by unfold scI; omega)]
  exact hx.us.ua
theorem part_ok {n b i : Int} {F : Int → SM → Prop} (h : SHT s t) (hc : CM n s) (hn : n ≤ 600) (hD : 240 ≤ d) (hF : ∀ w, SX [] [] (parU s t b i) w → F (parA s t b i) w) : cm iv L h0 d 95 [vr 307, vi b, vi i] s (qi F) := by
  obtain ⟨d, rfl⟩ : ∃ k, d = k + 1 := ⟨d - 1, by omega⟩
  refine B95 (isThere_ok h (by omega) (fun w h1 h2 => ⟨fun e => ?_, fun e => ?_⟩))
  · have hb : b ∈ fl t := Classical.byContradiction fun q => by rw [if_neg q] at e; exact e rfl
    have hlt := h.lt hb
    have m := AT_mem t h.1 b hb
    have e9 : w.2 9 = s.2 9 := h1.2 9 (by decide)
    have hp := pO_in (s.2 9 b)
    rw [e9]
    refine ⟨by omega, m.2.1, by omega, fun hi => ⟨by omega, by omega, by omega, ?_⟩, fun hi => ?_⟩
    · have := hF w (by rw [parU, if_neg (fun q => q.2 ⟨hi.1, by omega⟩)]; exact SX_lay h1)
      rw [parA, if_pos hb, if_pos ⟨hi.1, by omega⟩] at this
      rw [h1.2 14 (by decide)]
      exact this
    · refine meets_ok (n := n) (hc.x (SX_lay h1) (by decide)) hn (by decide) ?_
      have := hF (mtU w 2) (by rw [parU, if_pos ⟨hb, by omega⟩]; exact mtU_x (SX_lay h1) (by decide))
      rw [parA, if_pos hb, if_neg (by omega)] at this
      exact this
  · have hb : b ∉ fl t := fun q => by rw [if_pos q] at e; cases e
    have := hF w (by rw [parU, if_neg (fun q => hb q.1)]; exact SX_lay h1)
    rw [parA, if_neg hb] at this
    exact this
/-- sign i of a kind, none behind its end -/
def sgn (T : Term) (i : Int) : Int := if i < 0 then -9 else (sg T).getD i.toNat (-9)
def sigA (s : SM) (t : Term) (b q i : Int) : Int := if b ∈ fl t ∧ 0 ≤ i then (if q = 0 then sgn ((jdg s t).1 b) i else match (jdg s t).2.1 b with
  | none => -9
  | some T => sgn T i) else -1
theorem sign_ok {b q i : Int} {F : Int → SM → Prop} (h : SHT s t) (hN : NB s) (hK : KIs s) (hD : 240 ≤ d) (hF : ∀ w, SX [] [] s w → F (sigA s t b q i) w) : cm iv L h0 d 97 [vr 307, vi b, vi q, vi i] s (qi F) := by
  obtain ⟨d, rfl⟩ : ∃ k, d = k + 1 := ⟨d - 1, by omega⟩
  refine B97 (isThere_ok h (by omega) (fun w h1 h2 => ⟨fun e => ?_, fun e => ?_⟩))
  · have := hF w (SX_lay h1)
    rw [sigA, if_neg (fun c => by rw [if_pos c.1] at e; cases e)] at this
    exact this
  have hb : b ∈ fl t := Classical.byContradiction fun q => by rw [if_neg q] at e; exact e rfl
  have hlt := h.lt hb
  refine ⟨fun hi => judge2_ok h hN hK h1 (by omega) (fun v v1 v2 v3 v4 => ?_), fun hi => ?_⟩
  · obtain ⟨⟨j1, j2⟩, j3, j4⟩ := v4 b hb
    have sp : ∀ k, vks v k → sigA s t b q i = sgn (kts v k) i → cm iv L h0 d 96 [vr 307, vi k] (us v 23 0) (qv fun s5 => ((s5.1 23 ≤ i → F (-9) s5) ∧ (i < s5.1 23 → (0 ≤ i ∧ i < 64) ∧ F (s5.2 22 i) s5))) := fun k hk ek => by
      have hz := (v2.at hk).1
      refine wcv_mono (spell_ok 40 (us v 23 0) k v2 hz.2 hk v3 (Int.le_refl 0) (by show (0 : Int) + v.2 7 k ≤ 64; omega)) (by omega) ?_
      rintro u ⟨⟨u1, u2, u3, u4⟩, u5⟩
      have u2 : u.1 23 = 0 + ((sg (kts v k)).length : Int) := u2
      have u5 : ((sg (kts v k)).length : Int) = v.2 7 k := u5
      have su : SX [] [] s u := v1.tr ((SX.eq (eqx_us (s := v) (t := v) eqx.rf (y := 23) (z := 0) (ys := [23]) (fs := [22]) (by decide)) (by decide) (by decide)).tr (SX.eq u1 (by decide) (by decide)))
      have hF2 := hF u su
      rw [ek, sgn, if_neg (by omega)] at hF2
      refine ⟨fun q1 => ?_, fun q1 => ⟨by omega, ?_⟩⟩
      · rw [List.getD_eq_getElem?_getD, List.getElem?_eq_none (by omega)] at hF2
        exact hF2
      · have hj : i.toNat < (sg (kts v k)).length := by omega
        have := u3 i.toNat _ (List.getElem?_eq_getElem hj)
        have e23 : (us v 23 0).1 23 = 0 := rfl
        rw [e23, show (0 : Int) + (i.toNat : Int) = i by omega] at this
        rw [List.getD_eq_getElem?_getD, List.getElem?_eq_getElem hj] at hF2
        rw [this]
        exact hF2
    have hsa : sigA s t b q i = if q = 0 then sgn ((jdg s t).1 b) i else match (jdg s t).2.1 b with
      | none => -9
      | some T => sgn T i := if_pos ⟨hb, hi⟩
    refine ⟨fun hq => ⟨by omega, fun c => sp _ j1 ?_, fun c => ?_⟩, fun hq => ⟨by omega, fun c => ?_, fun c => ?_⟩⟩
    · rw [hsa, if_pos hq, j2]
    · have := j1.lt v2.1.1.2 v2.2.1
      omega
    · rw [if_neg hq] at hsa
      cases hA : (jdg s t).2.1 b with
      | none => rw [hA] at j3; exact absurd j3 c
      | some T =>
        rw [hA] at j3 hsa
        refine sp _ j3.1 ?_
        rw [hsa, j3.2]
    · have hF2 := hF v v1
      rw [if_neg hq] at hsa
      cases hA : (jdg s t).2.1 b with
      | none =>
        rw [hA] at hsa
        rw [hsa] at hF2
        exact hF2
      | some T =>
        rw [hA] at j3
        have := j3.1.lt v2.1.1.2 v2.2.1
        omega
  · have := hF w (SX_lay h1)
    rw [sigA, if_neg (by omega)] at this
    exact this
end
