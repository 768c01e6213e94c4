/-! put() by the desk, whole. Printed in part by wip/gen2/gen_put.py, gen_put2.py. -/
def PMID (iv : List (Int × Int)) (L : Nat) (h0 : MH) (d : Nat) (c : SC) (so v k : Int) (F : Int → SC → Prop) : Prop := (kl c 64 = 1) ∧ (kl c (fR c 64 1) = 8) ∧ (kl c (fR c (fR c 64 1) 2) = 5) ∧ ((fI c (fR c (fR c 64 1) 2) 1 ≠ 0 → (0 ≤ so ∧ so < 16) ∧ ((so = 0 → F (-4) c) ∧ (so ≠ 0 → ((pO so ≠ 0 → (-2147483648 ≤ (fI c (fR c 64 1) 3) + (pO so) ∧ (fI c (fR c 64 1) 3) + (pO so) ≤ 2147483647) ∧ ((60 < (fI c (fR c 64 1) 3) + (pO so) → F (-2) c) ∧ ((fI c (fR c 64 1) 3) + (pO so) ≤ 60 → ck iv L h0 d 205 [vr (fR c 64 1), vi (pO so)] c (qi fun r11 s10 => ((r11 = 0 → wk iv L h0 (d + 1) 13 128 [lr 64, li so, li v, li k, lr (fR c (fR c 64 1) 2), li 0, li (pO so)] [] s10 (qi F)) ∧ (r11 ≠ 0 → F (-2) s10)))))) ∧ (pO so = 0 → F (-4) c))))) ∧ (fI c (fR c (fR c 64 1) 2) 1 = 0 → (0 ≤ so ∧ so < 16) ∧ ((so = 0 → F (-4) c) ∧ (so ≠ 0 → ((pO so ≠ 0 → (-2147483648 ≤ (fI c (fR c 64 1) 3) + (pO so) ∧ (fI c (fR c 64 1) 3) + (pO so) ≤ 2147483647) ∧ ((60 < (fI c (fR c 64 1) 3) + (pO so) → F (-2) c) ∧ ((fI c (fR c 64 1) 3) + (pO so) ≤ 60 → (-2147483648 ≤ (pO so) + 1 ∧ (pO so) + 1 ≤ 2147483647) ∧ ck iv L h0 d 205 [vr (fR c 64 1), vi ((pO so) + 1)] c (qi fun r16 s15 => ((r16 = 0 → wk iv L h0 (d + 1) 13 128 [lr 64, li so, li v, li k, lr (fR c (fR c 64 1) 2), li 1, li (pO so)] [] s15 (qi F)) ∧ (r16 ≠ 0 → F (-2) s15)))))) ∧ (pO so = 0 → (-2147483648 ≤ (fI c (fR c 64 1) 3) + (pO so) ∧ (fI c (fR c 64 1) 3) + (pO so) ≤ 2147483647) ∧ ((60 < (fI c (fR c 64 1) 3) + (pO so) → F (-2) c) ∧ ((fI c (fR c 64 1) 3) + (pO so) ≤ 60 → (-2147483648 ≤ (pO so) + 1 ∧ (pO so) + 1 ≤ 2147483647) ∧ ck iv L h0 d 205 [vr (fR c 64 1), vi ((pO so) + 1)] c (qi fun r20 s19 => ((r20 = 0 → wk iv L h0 (d + 1) 13 128 [lr 64, li so, li v, li k, lr (fR c (fR c 64 1) 2), li 1, li (pO so)] [] s19 (qi F)) ∧ (r20 ≠ 0 → F (-2) s19)))))))))))
section
variable {iv : List (Int × Int)} {L : Nat} {h0 : MH} {A A' : Int → Nat} {c e : SC} {s s' : SM} {t : Term} {d : Nat} {P : Int → Prop} {Q : Int → Int → Prop} {K : List Snap}
theorem bn_c {so : Int} {F : Int → SC → Prop} (H1 : (so = 1 ∨ so = 2 ∨ so = 3 ∨ so = 8 ∨ so = 10) → F 1 c) (H2 : ¬ (so = 1 ∨ so = 2 ∨ so = 3 ∨ so = 8 ∨ so = 10) → F 0 c) : ck iv L h0 d 43 [vi so] c (qi F) :=
  C43 ⟨fun q => H1 (by omega), fun q => ⟨fun q2 => H1 (by omega), fun q2 => ⟨fun q3 => H1 (by omega), fun q3 => ⟨fun q8 => H1 (by omega), fun q8 => ⟨fun q10 => H2 (by omega), fun q10 => H1 (by omega)⟩⟩⟩⟩⟩
theorem bk_c {so : Int} {F : Int → SC → Prop} (H1 : (so = 8 ∨ so = 15) → F 1 c) (H2 : ¬ (so = 8 ∨ so = 15) → F 0 c) : ck iv L h0 d 44 [vi so] c (qi F) :=
  C44 ⟨fun q => H1 (by omega), fun q => ⟨fun q2 => H2 (by omega), fun q2 => H1 (by omega)⟩⟩
theorem has_c {k : Int} {F : Int → SC → Prop} (hX : FIX c) (hI : KIc c s) (H1 : (0 ≤ k ∧ k < s.1 2) → F 1 c) (H2 : ¬ (0 ≤ k ∧ k < s.1 2) → F 0 c) : ck iv L h0 d 176 [vr 65, vi k] c (qi F) := by
  refine C176 ⟨fun q => H2 (by omega), fun q => ⟨hX.dk.2.2.2.2, ?_⟩⟩
  rw [hI.1]
  exact ⟨fun q2 => H2 (by omega), fun q2 => H1 (by omega)⟩
theorem put_128 {so v k : Int} {F : Int → SC → Prop} (h1 : R1 A c s t) (hT : AFT s t) (hK : KIs s) (hKS : KSc A c K) (hKP : ∀ u, u ∈ K → KP s u) (hD : 300 ≤ d) (hg : putOk s t so v k) (H2 : ∀ e, ACT A c s t K e (putU s so v k) (putT s t so) → F (s.1 8) e) : wk iv L h0 (d + 2) 13 128 [lr 64, li so, li v, li k, lr (A (s.1 16)), li (if s.2 9 (s.1 16) = 0 then 1 else 0), li (pO so)] [] c (qi F) := by
  obtain ⟨⟨d1, d2, d3, d4, d5⟩, e1, e2, e3, e4, e5, e6⟩ := h1.cur hT
  have hB := hT.1.2.2.2.2.1
  have hpo := pO_in so
  have hB3 : s.1 8 < 3000 := by
    obtain ⟨g0, g5, g6, g7⟩ := hg
    unfold pfr at g7
    split at g7 <;> omega
  refine C13_128 ?_
  rw [d3]
  refine ⟨d1, d2, rem_ok h1 hT hKS (fun c1 hO1 hK1 hx1 hr1 => ?_)⟩
  have hX1 := hO1.1.1
  obtain ⟨a1, a2, a3, -⟩ := hX1.dk
  have b8 : fI c1 70 4 = s.1 8 := hO1.2.2.1.2.1
  have go : ∀ (v' k' : Int), v' = nvl so v → k' = kvl so k → (kl c1 (fR c1 64 1) = 8) ∧ ck iv L h0 (d + 1) 204 [vr (fR c1 64 1), vi so, vi v', vi k'] c1 (qa fun r11 s10 => (kl s10 64 = 1) ∧ (kl s10 (fR s10 64 1) = 8) ∧ ck iv L h0 (d + 1) 208 [vr (fR s10 64 1), vr (A (s.1 16)), vr r11] s10 (qv fun s14 => (((if s.2 9 (s.1 16) = 0 then (1 : Int) else 0) ≠ 0 → (((if s.2 9 (s.1 16) = 0 then (1 : Int) else 0) = 0 → wk iv L h0 (d + 2) 13 207 [lr 64, ln, ln, ln, ln, ln, li (pO so), lr r11, li 1] [] s14 (qi F)) ∧ ((if s.2 9 (s.1 16) = 0 then (1 : Int) else 0) ≠ 0 → wk iv L h0 (d + 2) 13 207 [lr 64, ln, ln, ln, ln, ln, li (pO so), lr r11, li 0] [] s14 (qi F)))) ∧ ((if s.2 9 (s.1 16) = 0 then (1 : Int) else 0) = 0 → (kl s14 r11 = 5) ∧ ck iv L h0 (d + 1) 188 [vr r11, vi 0, vr (A (s.1 16))] s14 (qv fun s16 => (((if s.2 9 (s.1 16) = 0 then (1 : Int) else 0) = 0 → wk iv L h0 (d + 2) 13 207 [lr 64, ln, ln, ln, ln, ln, li (pO so), lr r11, li 1] [] s16 (qi F)) ∧ ((if s.2 9 (s.1 16) = 0 then (1 : Int) else 0) ≠ 0 → wk iv L h0 (d + 2) 13 207 [lr 64, ln, ln, ln, ln, ln, li (pO so), lr r11, li 0] [] s16 (qi F)))))))) := fun v' k' hv hk => by
    subst hv
    subst hk
    rw [a3]
    refine ⟨a2, born_c hX1 (by omega) (by have := hg.1.1; omega) (fun c2 hb2 => ?_)⟩
    obtain ⟨o1, o2, o3, -⟩ := (hb2.new hX1).dk
    rw [o3]
    refine ⟨o1, o2, wcv_mono (put_end (r := 0) h1 hT hK hKP hg hD H2 hO1 hK1 hx1 hr1 hb2) (Nat.le_refl _) (fun s14 g => ?_)⟩
    by_cases e : s.2 9 (s.1 16) = 0
    · rw [if_pos e]
      exact ⟨fun _ => ⟨fun q => absurd q (by decide), fun _ => g.2 e⟩, fun q => absurd q (by decide)⟩
    · rw [if_neg e]
      obtain ⟨g1, g2⟩ := g.1 e
      exact ⟨fun q => absurd rfl q, fun _ => ⟨g1, wcv_mono g2 (Nat.le_refl _) (fun s16 g3 => ⟨fun _ => g3, fun q => absurd rfl q⟩)⟩⟩
  refine ⟨a1, bn_c (fun hb => ⟨fun q => absurd q (by decide), fun _ => bk_c (fun hk => ⟨fun q => absurd q (by decide), fun _ => go v k ?_ ?_⟩) (fun hk => ⟨fun _ => go v (-9) ?_ ?_, fun q => absurd rfl q⟩)⟩) (fun hb => ⟨fun _ => bk_c (fun hk => ⟨fun q => absurd q (by decide), fun _ => go (-9) k ?_ ?_⟩) (fun hk => ⟨fun _ => go (-9) (-9) ?_ ?_, fun q => absurd rfl q⟩), fun q => absurd rfl q⟩)⟩
  · unfold nvl; rw [if_pos hb]
  · unfold kvl; rw [if_pos hk]
  · unfold nvl; rw [if_pos hb]
  · unfold kvl; rw [if_neg hk]
  · unfold nvl; rw [if_neg hb]
  · unfold kvl; rw [if_pos hk]
  · unfold nvl; rw [if_neg hb]
  · unfold kvl; rw [if_neg hk]
theorem pmid_ok {so v k : Int} {F : Int → SC → Prop} (h1 : R1 A c s t) (hT : AFT s t) (hg : pgd s so v k) (H1 : ¬ putOk s t so v k → F (putA s t so v k) c) (H2 : putOk s t so v k → wk iv L h0 (d + 1) 13 128 [lr 64, li so, li v, li k, lr (A (s.1 16)), li (if s.2 9 (s.1 16) = 0 then 1 else 0), li (pO so)] [] c (qi F)) : PMID iv L h0 d c so v k F := by
  obtain ⟨⟨d1, d2, d3, d4, d5⟩, e1, e2, e3, e4, e5, e6⟩ := h1.cur hT
  have hB := hT.1.2.2.2.2.1
  have hl := hT.1.2.2.2.1
  have hpo := pO_in so
  have hsr := hg.1
  unfold PMID
  rw [d3, e1, e2, e3, e6]
  have st : (so = 0 ∨ (pO so = 0 ∧ s.2 9 (s.1 16) ≠ 0)) → F (-4) c := fun q => by
    have := H1 (fun w => w.2.1 q)
    rw [putA_st hg q] at this
    exact this
  have fu : ¬ (so = 0 ∨ (pO so = 0 ∧ s.2 9 (s.1 16) ≠ 0)) → (60 < ((fl t).length : Int) + pO so ∨ 3000 < s.1 8 + pfr s so) → F (-2) c := fun q w => by
    have := H1 (fun z => by have := z.2.2; omega)
    rw [putA_fu hg q w] at this
    exact this
  have ok : ¬ (so = 0 ∨ (pO so = 0 ∧ s.2 9 (s.1 16) ≠ 0)) → ((fl t).length : Int) + pO so ≤ 60 → s.1 8 + pfr s so ≤ 3000 → wk iv L h0 (d + 1) 13 128 [lr 64, li so, li v, li k, lr (A (s.1 16)), li (if s.2 9 (s.1 16) = 0 then 1 else 0), li (pO so)] [] c (qi F) := fun q w z => H2 ⟨hg, q, w, z⟩
  by_cases hs : s.2 9 (s.1 16) = 0
  · have hpf : pfr s so = 1 + pO so := if_pos hs
    rw [hpf] at fu ok
    rw [if_pos hs] at ok
    have key : so ≠ 0 → ((fl t).length : Int) + pO so ≤ 60 → ck iv L h0 d 205 [vr 70, vi (pO so + 1)] c (qi fun r16 s15 => ((r16 = 0 → wk iv L h0 (d + 1) 13 128 [lr 64, li so, li v, li k, lr (A (s.1 16)), li 1, li (pO so)] [] s15 (qi F)) ∧ (r16 ≠ 0 → F (-2) s15))) := fun q w => lacks_c h1.1.1 e5 hB (by omega) (fun z => ⟨fun _ => ok (by omega) w (by omega), fun y => absurd rfl y⟩) (fun z => ⟨fun y => absurd y (by decide), fun _ => fu (by omega) (by omega)⟩)
    refine ⟨d1, d2, rfl, fun q => absurd hs q, fun _ => ⟨by omega, fun q => st (Or.inl q), fun q0 => ⟨fun q1 => ⟨by omega, fun q2 => fu (by omega) (by omega), fun q2 => ⟨by omega, key q0 q2⟩⟩, fun q1 => ⟨by omega, fun q2 => fu (by omega) (by omega), fun q2 => ⟨by omega, key q0 q2⟩⟩⟩⟩⟩
  · have hpf : pfr s so = pO so := if_neg hs
    rw [hpf] at fu ok
    rw [if_neg hs] at ok
    refine ⟨d1, d2, rfl, fun _ => ⟨by omega, fun q => st (Or.inl q), fun q0 => ⟨fun q1 => ⟨by omega, fun q2 => fu (by omega) (by omega), fun q2 => lacks_c h1.1.1 e5 hB (by omega) (fun z => ⟨fun _ => ok (by omega) q2 (by omega), fun y => absurd rfl y⟩) (fun z => ⟨fun y => absurd y (by decide), fun _ => fu (by omega) (by omega)⟩)⟩, fun q1 => st (Or.inr ⟨q1, hs⟩)⟩⟩, fun q => absurd q hs⟩
theorem put_c {so v k : Int} {F : Int → SC → Prop} (h1 : R1 A c s t) (hT : AFT s t) (hK : KIs s) (hKS : KSc A c K) (hKP : ∀ u, u ∈ K → KP s u) (hD : 310 ≤ d) (H1 : ¬ putOk s t so v k → F (putA s t so v k) c) (H2 : putOk s t so v k → ∀ e, ACT A c s t K e (putU s so v k) (putT s t so) → F (s.1 8) e) : ck iv L h0 d 13 [vr 64, vi so, vi v, vi k] c (qi F) := by
  obtain ⟨d, rfl⟩ : ∃ k, d = k + 1 + 1 := ⟨d - 2, by omega⟩
  obtain ⟨⟨d1, d2, d3, d4, d5⟩, e1, e2, e3, e4, e5, e6⟩ := h1.cur hT
  have bad : ¬ pgd s so v k → F (-1) c := fun q => by
    have := H1 (fun w => q w.1)
    rw [putA_bad q] at this
    exact this
  have mid : pgd s so v k → PMID iv L h0 (d + 1) c so v k F := fun hg => pmid_ok h1 hT hg H1 (fun hok => put_128 h1 hT hK hKS hKP (by omega) hok (H2 hok))
  unfold pgd at bad
  unfold pgd at mid
  refine C13 ⟨fun q => bad (by omega), fun q0 => ⟨fun q => bad (by omega), fun q1 => fits_c (fun hf => ⟨fun q => absurd q (by decide), fun _ => bk_c (fun hk => ⟨fun q => absurd q (by decide), fun _ => ⟨d1, by rw [d4]; exact d5, ?_⟩⟩) (fun hk => ⟨fun _ => ?_, fun q => absurd rfl q⟩)⟩) (fun hf => ⟨fun _ => bad (fun w => hf ⟨fun z => by have := w.2.1 z; omega, fun z => by have := w.2.2.1 z; omega⟩), fun q => absurd rfl q⟩)⟩⟩
  · rw [d4]
    refine has_c h1.1.1 h1.2.2.1 (fun hkk => ⟨fun _ => ?_, fun q => absurd q (by decide)⟩) (fun hkk => ⟨fun q => absurd rfl q, fun _ => bad (fun w => hkk (w.2.2.2 hk))⟩)
    exact mid ⟨by omega, fun z => by have := hf.1 z; omega, fun z => by have := hf.2 z; omega, fun _ => hkk⟩
  · exact mid ⟨by omega, fun z => by have := hf.1 z; omega, fun z => by have := hf.2 z; omega, fun w => absurd w hk⟩
end
