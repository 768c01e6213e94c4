/-! kind(), sign(), count() by the desk. -/
section
variable {iv : List (Int × Int)} {L : Nat} {h0 : MH} {A A' : Int → Nat} {c e : SC} {s s' w : SM} {t : Term} {d : Nat} {K : List Snap} {Sh : Int → Option Snap}
theorem FIX.kr (h : FIX c) : kl c 65 = 4 ∧ (fR c 65 0 = 66 ∧ fR c 65 1 = 67 ∧ fR c 65 2 = 68 ∧ fR c 65 3 = 69) ∧ (kl c 66 = 100 ∧ kl c 67 = 100 ∧ kl c 68 = 100 ∧ kl c 69 = 100) ∧ le c 66 = 1440 ∧ le c 67 = 1440 ∧ le c 68 = 1440 ∧ le c 69 = 1440 := by
  simp only [h.1]
  exact ⟨trivial, ⟨trivial, trivial, trivial, trivial⟩, ⟨trivial, trivial, trivial, trivial⟩, trivial, trivial, trivial, trivial⟩
theorem ksize_c {a b : Int} {F : Int → SC → Prop} (hX : FIX c) (hI : KIc c s) (hK : KIs s) (ha : 0 ≤ a ∧ a < s.1 2) (hb : 0 ≤ b ∧ b < s.1 2) (hF : F (1 + s.2 7 a + s.2 7 b) c) : ck iv L h0 d 177 [vr 65, vi a, vi b] c (qi F) := by
  obtain ⟨k1, ⟨f0, f1, f2, f3⟩, ⟨g0, g1, g2, g3⟩, l0, l1, l2, l3⟩ := hX.kr
  have hn := hK.1
  have za := ((KJ_40 hK).at (k := a) (Or.inl ha)).1
  have zb := ((KJ_40 hK).at (k := b) (Or.inl hb)).1
  refine C177 ?_
  rw [k1, f3, g3, l3, (hI.2 a ha.1 ha.2).2.2.2, (hI.2 b hb.1 hb.2).2.2.2]
  exact ⟨rfl, rfl, by omega, by omega, by omega, by omega, hF⟩
theorem kmake_c {i a b : Int} {F : Int → SC → Prop} (hX : FIX c) (hI : KIc c s) (hK : KIs s) (ha : 0 ≤ a ∧ a < s.1 2) (hb : 0 ≤ b ∧ b < s.1 2) (hn : s.1 2 < 40) (hF : F (s.1 2) (knC c (s.1 2) i a b (1 + s.2 7 a + s.2 7 b))) : ck iv L h0 (d + 1) 179 [vr 65, vi i, vi a, vi b] c (qi F) := by
  obtain ⟨k1, ⟨f0, f1, f2, f3⟩, ⟨g0, g1, g2, g3⟩, l0, l1, l2, l3⟩ := hX.kr
  have hn3 := hK.1
  refine C179 ⟨k1, ksize_c hX hI hK ha hb ⟨k1, C175 ?_⟩⟩
  rw [k1, f0, f1, f2, f3, g0, g1, g2, g3, l0, l1, l2, l3, hI.1]
  refine ⟨rfl, rfl, by omega, rfl, by omega, rfl, by omega, rfl, by omega, k1, ?_⟩
  have e4 : fI (uA (uA (uA (uA c 66 (s.1 2) i) 67 (s.1 2) a) 68 (s.1 2) b) 69 (s.1 2) (1 + s.2 7 a + s.2 7 b)) 65 4 = s.1 2 := hI.1
  rw [e4]
  exact ⟨by omega, hF⟩
theorem kind_c {p a b : Int} {F : Int → SC → Prop} (hX : FIX c) (hI : KIc c s) (hK : KIs s) (hd : 3 ≤ d) (H1 : kbad s a b → F (-1) c) (H2 : ¬ kbad s a b → (0 ≤ kfs s (kis p) a b ∨ s.1 2 = 40) → F (kndA s p a b) c) (H3 : ¬ kbad s a b → ¬ 0 ≤ kfs s (kis p) a b → s.1 2 < 40 → F (s.1 2) (knC c (s.1 2) (kis p) a b (1 + s.2 7 a + s.2 7 b))) : ck iv L h0 d 2 [vr 64, vi p, vi a, vi b] c (qi F) := by
  obtain ⟨d, rfl⟩ : ∃ k, d = k + 1 + 1 := ⟨d - 2, by omega⟩
  obtain ⟨d1, d2, d3, d4, d5⟩ := hX.dk
  have hn := hK.1
  have body : ∀ i : Int, kis p = i → (kl c 64 = 1) ∧ (kl c (fR c 64 0) = 4) ∧ ck iv L h0 (d + 1) 176 [vr (fR c 64 0), vi a] c (qi fun r4 s3 => ((r4 = 0 → F (-1) s3) ∧ (r4 ≠ 0 → (kl s3 64 = 1) ∧ (kl s3 (fR s3 64 0) = 4) ∧ ck iv L h0 (d + 1) 176 [vr (fR s3 64 0), vi b] s3 (qi fun r8 s7 => ((r8 = 0 → F (-1) s7) ∧ (r8 ≠ 0 → (kl s7 64 = 1) ∧ (kl s7 (fR s7 64 0) = 4) ∧ ck iv L h0 (d + 1) 177 [vr (fR s7 64 0), vi a, vi b] s7 (qi fun r12 s11 => ((r12 ≤ 40 → (kl s11 64 = 1) ∧ (kl s11 (fR s11 64 0) = 4) ∧ ck iv L h0 (d + 1) 178 [vr (fR s11 64 0), vi i, vi a, vi b] s11 (qi fun r16 s15 => ((r16 < 0 → (kl s15 64 = 1) ∧ (kl s15 (fR s15 64 0) = 4) ∧ ((fI s15 (fR s15 64 0) 4 < 40 → ck iv L h0 (d + 1) 179 [vr (fR s15 64 0), vi i, vi a, vi b] s15 (qi fun r20 s19 => F r20 s19)) ∧ (40 ≤ fI s15 (fR s15 64 0) 4 → F (-2) s15))) ∧ (0 ≤ r16 → F r16 s15)))) ∧ (40 < r12 → F (-1) s11))))))))) := fun i hi => by
    subst hi
    rw [d4]
    refine ⟨d1, d5, has_c hX hI (fun qa' => ⟨fun w => absurd w (by decide), fun _ => ⟨d1, by rw [d4]; exact d5, ?_⟩⟩) (fun q => ⟨fun _ => H1 (Or.inl q), fun w => absurd rfl w⟩)⟩
    rw [d4]
    refine has_c hX hI (fun qb => ⟨fun w => absurd w (by decide), fun _ => ⟨d1, by rw [d4]; exact d5, ?_⟩⟩) (fun q => ⟨fun _ => H1 (Or.inr (Or.inl q)), fun w => absurd rfl w⟩)
    rw [d4]
    refine ksize_c hX hI hK qa' qb ⟨fun qz => ⟨d1, by rw [d4]; exact d5, ?_⟩, fun qz => H1 (Or.inr (Or.inr qz))⟩
    have hg : ¬ kbad s a b := fun w => by
      rcases w with w | w | w
      · exact w qa'
      · exact w qb
      · omega
    rw [d4]
    refine kfind_c hX hI hK ⟨fun qf => ⟨d1, by rw [d4]; exact d5, ?_⟩, fun qf => ?_⟩
    · rw [d4, hI.1]
      refine ⟨fun q40 => kmake_c hX hI hK qa' qb q40 (H3 hg (by omega) q40), fun q40 => ?_⟩
      have := H2 hg (Or.inr (by omega))
      unfold kndA at this
      rw [if_neg (by omega), if_pos (by omega)] at this
      exact this
    · have := H2 hg (Or.inl qf)
      unfold kndA at this
      rw [if_pos qf] at this
      exact this
  exact C2 ⟨fun q => body 3 (by unfold kis; rw [if_pos q]), fun q => body 4 (by unfold kis; rw [if_neg q])⟩
end
theorem sg_sz {n m : Int} {ks ka kb sz : Int → Int} (h : KJ n m ks ka kb sz) : ∀ (q : Nat) (k : Int), sz k ≤ q → vk n m k → ((sg (kt ks ka kb k)).length : Int) = sz k := by
  intro q
  induction q with
  | zero => intro k h1 hk; have := (h.at hk).1; omega
  | succ q ih =>
    intro k h1 hk
    obtain ⟨a1, a2, a3, a4⟩ := h.at hk
    have hl := kt_leaf h (k := k)
    by_cases h3 : ks k < 3
    · have e := a3 h3
      rcases (show ks k = 0 ∨ ks k = 1 ∨ ks k = 2 by omega) with e0 | e0 | e0
      · rw [hl.1 e0, e.2]; rfl
      · rw [hl.2.1 e0, e.2]; rfl
      · rw [hl.2.2 e0, e.2]; rfl
    · obtain ⟨k3, va, vb, e, sa, sb⟩ := a4 (by omega)
      have i1 := ih (ka k) (by omega) (vk_le va hk h.2.1)
      have i2 := ih (kb k) (by omega) (vk_le vb hk h.2.1)
      have hn := kt_node h hk
      rcases (show ks k = 3 ∨ ks k = 4 by omega) with e0 | e0
      · rw [hn.1 e0, e, ← i1, ← i2]
        show ((102 :: (sg _ ++ sg _) : List Int).length : Int) = _
        simp; omega
      · rw [hn.2 e0, e, ← i1, ← i2]
        show ((112 :: (sg _ ++ sg _) : List Int).length : Int) = _
        simp; omega
theorem sgn_0 {T : Term} {x : Int} {r : List Int} (h : sg T = x :: r) : sgn T 0 = x := by unfold sgn; rw [h]; rfl
theorem sgn_big {T : Term} {i : Int} (h : ((sg T).length : Int) ≤ i) : sgn T i = -9 := by
  unfold sgn
  by_cases q : i < 0
  · rw [if_pos q]
  · rw [if_neg q, List.getD_eq_getElem?_getD, List.getElem?_eq_none (by omega)]; rfl
theorem sgn_a {T T1 T2 : Term} {x i : Int} (h : sg T = x :: (sg T1 ++ sg T2)) (hi : 0 < i) (hl : i - 1 < ((sg T1).length : Int)) : sgn T i = sgn T1 (i - 1) := by
  unfold sgn
  rw [if_neg (by omega), if_neg (by omega), h, show i.toNat = (i - 1).toNat + 1 by omega, List.getD_cons_succ, List.getD_eq_getElem?_getD, List.getD_eq_getElem?_getD, List.getElem?_append_left (by omega)]
theorem sgn_b {T T1 T2 : Term} {x i : Int} (h : sg T = x :: (sg T1 ++ sg T2)) (hi : 0 < i) (hl : ((sg T1).length : Int) ≤ i - 1) : sgn T i = sgn T2 (i - 1 - (sg T1).length) := by
  unfold sgn
  rw [if_neg (by omega), if_neg (by omega), h, show i.toNat = (i - 1).toNat + 1 by omega, List.getD_cons_succ, List.getD_eq_getElem?_getD, List.getD_eq_getElem?_getD, List.getElem?_append_right (by omega), show (i - 1).toNat - (sg T1).length = (i - 1 - ((sg T1).length : Int)).toNat by omega]
theorem scat_8 : slen 8 = 5 ∧ scat 8 0 = 63 ∧ scat 8 1 = 119 ∧ scat 8 2 = 116 ∧ scat 8 3 = 102 ∧ scat 8 4 = 112 := by decide +kernel
section
variable {iv : List (Int × Int)} {L : Nat} {h0 : MH} {A A' : Int → Nat} {c e : SC} {s s' w : SM} {t : Term} {d : Nat} {K : List Snap} {Sh : Int → Option Snap}
/-- a sign of a kind, walked to -/
theorem signOf_c (hX : FIX c) (hJ : KJc c) (hm : fI c 65 5 ≤ 1440) : ∀ (q : Nat) (k i n : Int) {F : Int → SC → Prop}, vkc c k → 0 ≤ i → i ≤ 2147483647 → aI c 69 k ≤ q → n + aI c 69 k ≤ 41 → 0 ≤ n → F (sgn (ktc c k) i) c → wk iv L h0 d 185 8 [lr 65, ln, ln, li k, li i, li n] [] c (qi F) := by
  obtain ⟨k1, ⟨f0, f1, f2, f3⟩, ⟨g0, g1, g2, g3⟩, l0, l1, l2, l3⟩ := hX.kr
  intro q
  induction q with
  | zero =>
    intro k i n F hk i0 iM hq hn n0 hF
    have := (KJ.at hJ hk).1
    omega
  | succ q ih =>
    intro k i n F hk i0 iM hq hn n0 hF
    obtain ⟨a1, a2, a3, a4⟩ := KJ.at hJ hk
    have hlt := hk.lt hJ.1.1.2 hJ.2.1
    have hlen : ∀ j, vkc c j → ((sg (ktc c j)).length : Int) = aI c 69 j := fun j hj => sg_sz hJ (aI c 69 j).toNat j (by have := (KJ.at hJ hj).1; omega) hj
    have hl := kt_leaf (k := k) hJ
    have hnd := kt_node hJ hk
    have hr : 0 ≤ k ∧ k < 1440 := by omega
    refine C185_8 ⟨fun w => by omega, fun _ => ?_⟩
    rw [f0, f1, f2, f3, g0, g1, g2, g3, l0, l1, l2, l3]
    refine ⟨k1, rfl, hr, fun w => ?_, fun w => ⟨fun w0 => ?_, fun w0 => ⟨rfl, hr, ?_, ?_, ?_⟩⟩⟩
    · rw [sgn_big (by rw [hlen k hk]; exact w)] at hF
      exact hF
    · have h3 : 3 ≤ aI c 66 k := by
        by_cases z : aI c 66 k < 3
        · have := (a3 z).2; omega
        · omega
      obtain ⟨b1, b2, b3, b4, b5, b6⟩ := a4 h3
      have b2 : vkc c (aI c 67 k) := vk_le b2 hk hJ.2.1
      have b3 : vkc c (aI c 68 k) := vk_le b3 hk hJ.2.1
      have r2 := b2.lt hJ.1.1.2 hJ.2.1
      have r3 := b3.lt hJ.1.1.2 hJ.2.1
      have hs : ∃ x, sg (ktc c k) = x :: (sg (ktc c (aI c 67 k)) ++ sg (ktc c (aI c 68 k))) := by
        rcases (show aI c 66 k = 3 ∨ aI c 66 k = 4 by omega) with e0 | e0
        · exact ⟨102, by show sg (kt _ _ _ k) = _; rw [hnd.1 e0]; rfl⟩
        · exact ⟨112, by show sg (kt _ _ _ k) = _; rw [hnd.2 e0]; rfl⟩
      obtain ⟨x, hs⟩ := hs
      refine ⟨by omega, rfl, hr, by omega, fun z => ⟨by omega, rfl, hr, by omega, ?_⟩, fun z => ⟨by omega, ?_⟩⟩
      · refine ih _ _ _ b3 (by omega) (by omega) (by omega) (by omega) (by omega) ?_
        rw [sgn_b hs (by omega) (by rw [hlen _ b2]; exact z), hlen _ b2] at hF
        exact hF
      · refine ih _ _ _ b2 (by omega) (by omega) (by omega) (by omega) (by omega) ?_
        rw [sgn_a hs (by omega) (by rw [hlen _ b2]; exact z)] at hF
        exact hF
    · exact ⟨by decide, by decide⟩
    · rw [scat_8.1]; omega
    · obtain ⟨-, t0, t1, t2, t3, t4⟩ := scat_8
      rw [w0] at hF
      rcases (show aI c 66 k = 0 ∨ aI c 66 k = 1 ∨ aI c 66 k = 2 ∨ aI c 66 k = 3 ∨ aI c 66 k = 4 by omega) with e0 | e0 | e0 | e0 | e0
      · rw [sgn_0 (x := 63) (r := []) (by show sg (kt _ _ _ k) = _; rw [hl.1 e0]; rfl)] at hF
        rw [e0, t0]; exact hF
      · rw [sgn_0 (x := 119) (r := []) (by show sg (kt _ _ _ k) = _; rw [hl.2.1 e0]; rfl)] at hF
        rw [e0, t1]; exact hF
      · rw [sgn_0 (x := 116) (r := []) (by show sg (kt _ _ _ k) = _; rw [hl.2.2 e0]; rfl)] at hF
        rw [e0, t2]; exact hF
      · rw [sgn_0 (x := 102) (r := sg (ktc c (aI c 67 k)) ++ sg (ktc c (aI c 68 k))) (by show sg (kt _ _ _ k) = _; rw [hnd.1 e0]; rfl)] at hF
        rw [e0, t3]; exact hF
      · rw [sgn_0 (x := 112) (r := sg (ktc c (aI c 67 k)) ++ sg (ktc c (aI c 68 k))) (by show sg (kt _ _ _ k) = _; rw [hnd.2 e0]; rfl)] at hF
        rw [e0, t4]; exact hF
theorem sign_c {b q i : Int} {F : Int → SC → Prop} (h1 : R1 A c s t) (hS : SHT s t) (hi : i ≤ 2147483647) (hF : F (sigA s t b q i) c) : ck iv L h0 (d + 1) 9 [vr 64, vi b, vi q, vi i] c (qi F) := by
  have hX := h1.1.1
  obtain ⟨d1, d2, d3, d4, d5⟩ := hX.dk
  obtain ⟨j1, j2, j3⟩ := h1.2.2.2
  unfold sigA at hF
  have sp : ∀ k, vkc c k → 0 ≤ i → F (sgn (ktc c k) i) c → ck iv L h0 d 185 [vr 65, vi k, vi i] c (qi F) := fun k hk i0 h => by
    have := (KJ.at j1 hk).1
    exact C185 (signOf_c hX j1 (by omega) 40 k i 0 hk i0 hi (by omega) (by omega) (by omega) h)
  refine C9 ⟨d1, by rw [d3]; exact d2, ?_⟩
  rw [d3]
  refine find_c h1 hS (fun hb => ⟨fun w => absurd w (h1.1.2.1.ne (hS.m b hb)).1, fun _ => ⟨fun i0 => ⟨fun q0 => ?_, fun q0 => ?_⟩, fun i0 => ?_⟩⟩) (fun hb => ⟨fun _ => ?_, fun w => absurd rfl w⟩)
  · have hbb := hS.m b hb
    obtain ⟨⟨n1, -⟩, n9, n10⟩ := h1.1.2.1.2 b hbb.1 hbb.2
    obtain ⟨⟨g1, g2⟩, g3, g4⟩ := j3 b hb
    have hlt := g1.lt j1.1.1.2 j1.2.1
    rw [if_pos ⟨hb, i0⟩, if_pos q0, ← g2] at hF
    refine ⟨n1, fun _ => ⟨d1, by rw [d4]; exact d5, ?_⟩, fun w => by omega⟩
    rw [d4]
    exact sp _ g1 i0 hF
  · have hbb := hS.m b hb
    obtain ⟨⟨n1, -⟩, n9, n10⟩ := h1.1.2.1.2 b hbb.1 hbb.2
    obtain ⟨⟨g1, g2⟩, g3, g4⟩ := j3 b hb
    rw [if_pos ⟨hb, i0⟩, if_neg q0] at hF
    unfold aKc at g3
    cases hA : (jdg s t).2.1 b with
    | none =>
      rw [hA] at g3 hF
      exact ⟨n1, fun w => absurd g3 w, fun _ => hF⟩
    | some T =>
      rw [hA] at g3 hF
      obtain ⟨g5, g6⟩ := g3
      have hlt := g5.lt j1.1.1.2 j1.2.1
      rw [← g6] at hF
      refine ⟨n1, fun _ => ⟨d1, by rw [d4]; exact d5, ?_⟩, fun w => by omega⟩
      rw [d4]
      exact sp _ g5 i0 hF
  · rw [if_neg (by omega)] at hF
    exact hF
  · rw [if_neg (fun w => hb w.1)] at hF
    exact hF
end
