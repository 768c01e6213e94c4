/-! Meeting kinds, kinds together, by the desk. -/
section
variable {iv : List (Int × Int)} {L : Nat} {h0 : MH} {A : Int → Nat} {T : Int → Prop} {ρ : Int → Option Int} {c e f : SC} {s w : SM} {k d M : Nat}
theorem kmt_n (x : Term) : kmt x .null = true := by cases x <;> rfl
theorem kmt_0 (x : Term) : kmt .null x = true := by cases x <;> rfl
/-- what kmt comes to, by the rows -/
theorem kmt_row {a b : Int} (hs : KJs s) (ha : vks s a) (hb : vks s b) (e0 : s.2 4 a ≠ 0) (e1 : s.2 4 b ≠ 0) : (s.2 4 a ≠ s.2 4 b → kmt (kts s a) (kts s b) = false) ∧ (s.2 4 a = s.2 4 b → s.2 4 a < 3 → kmt (kts s a) (kts s b) = true) ∧ (s.2 4 a = s.2 4 b → 3 ≤ s.2 4 a → kmt (kts s a) (kts s b) = (kmt (kts s (s.2 5 a)) (kts s (s.2 5 b)) && kmt (kts s (s.2 6 a)) (kts s (s.2 6 b))) ∧ ktg (kts s a) (kts s b) = kmk (s.2 4 a) (ktg (kts s (s.2 5 a)) (kts s (s.2 5 b))) (ktg (kts s (s.2 6 a)) (kts s (s.2 6 b)))) := by
  have leaf : ∀ k, (s.2 4 k = 0 → kts s k = .null) ∧ (s.2 4 k = 1 → kts s k = .result) ∧ (s.2 4 k = 2 → kts s k = .thrown) := fun k => kt_leaf hs
  have node : ∀ k, vks s k → (s.2 4 k = 3 → kts s k = .add (kts s (s.2 5 k)) (kts s (s.2 6 k))) ∧ (s.2 4 k = 4 → kts s k = .mul (kts s (s.2 5 k)) (kts s (s.2 6 k))) := fun k hk => kt_node hs hk
  have Ha := (hs.at ha).2.1
  have Hb := (hs.at hb).2.1
  refine ⟨fun h => ?_, fun h h3 => ?_, fun h h3 => ?_⟩
  · rcases (show s.2 4 a = 1 ∨ s.2 4 a = 2 ∨ s.2 4 a = 3 ∨ s.2 4 a = 4 by omega) with f | f | f | f <;> rcases (show s.2 4 b = 1 ∨ s.2 4 b = 2 ∨ s.2 4 b = 3 ∨ s.2 4 b = 4 by omega) with f2 | f2 | f2 | f2
    all_goals first
      | (exfalso; omega)
      | (rw [(leaf a).2.1 f, (leaf b).2.2 f2]; rfl)
      | (rw [(leaf a).2.1 f, (node b hb).1 f2]; rfl)
      | (rw [(leaf a).2.1 f, (node b hb).2 f2]; rfl)
      | (rw [(leaf a).2.2 f, (leaf b).2.1 f2]; rfl)
      | (rw [(leaf a).2.2 f, (node b hb).1 f2]; rfl)
      | (rw [(leaf a).2.2 f, (node b hb).2 f2]; rfl)
      | (rw [(node a ha).1 f, (leaf b).2.1 f2]; rfl)
      | (rw [(node a ha).1 f, (leaf b).2.2 f2]; rfl)
      | (rw [(node a ha).1 f, (node b hb).2 f2]; rfl)
      | (rw [(node a ha).2 f, (leaf b).2.1 f2]; rfl)
      | (rw [(node a ha).2 f, (leaf b).2.2 f2]; rfl)
      | (rw [(node a ha).2 f, (node b hb).1 f2]; rfl)
  · rcases (show s.2 4 a = 1 ∨ s.2 4 a = 2 by omega) with e5 | e5
    · rw [(leaf a).2.1 e5, (leaf b).2.1 (by omega)]; rfl
    · rw [(leaf a).2.2 e5, (leaf b).2.2 (by omega)]; rfl
  · rcases (show s.2 4 a = 3 ∨ s.2 4 a = 4 by omega) with e5 | e5
    · rw [(node a ha).1 e5, (node b hb).1 (by omega), e5]; exact ⟨rfl, rfl⟩
    · rw [(node a ha).2 e5, (node b hb).2 (by omega), e5]; exact ⟨rfl, rfl⟩
theorem meeting_okd (hX : FIX c ∧ JKi c s) (hs : KJs s) (hm6 : s.1 3 ≤ 1440) : ∀ (q : Nat) (a b dep : Int) (F : Int → SC → Prop), s.2 7 a ≤ q → 0 ≤ dep → dep + s.2 7 a ≤ 41 → vks s a → vks s b → F (if kmt (kts s a) (kts s b) then 1 else 0) c → ck iv L h0 q 183 [vr 65, vi a, vi b, vi dep] c (qi F) := by
  obtain ⟨hX, h4, e4, e5, e6, e7⟩ := hX
  have hm0 := hs.2.1
  have hn := hs.1.1
  intro q
  induction q with
  | zero => intro a b dep F h1 _ _ ha hb; have := (hs.at ha).1; omega
  | succ q ih =>
    intro a b dep F h1 hd0 hdep ha hb hF
    have Ha := hs.at ha
    have Hb := hs.at hb
    have la := ha.lt hn.2 hm0
    have lb := hb.lt hn.2 hm0
    refine C183 ?_
    simp only [hX.1, e4, e5, e6, true_and]
    refine ⟨by omega, fun e => ?_, fun e0 => ⟨by omega, fun e => ?_, fun e1 => ⟨fun _ => ⟨fun h => ⟨fun h3 => ?_, fun h3 => ?_⟩, fun h => ?_⟩, fun h => by omega⟩⟩⟩
    · rw [show kts s a = .null from (kt_leaf hs).1 e, kmt_0] at hF
      exact hF
    · rw [show kts s b = .null from (kt_leaf hs).1 e, kmt_n] at hF
      exact hF
    · rw [(kmt_row hs ha hb e0 e1).2.1 h h3] at hF
      exact hF
    · obtain ⟨a3, va, wa, ea, sa, ta⟩ := Ha.2.2.2 h3
      obtain ⟨b3, vb, wb, eb, sb, tb⟩ := Hb.2.2.2 (by omega)
      have va' : vks s (s.2 5 a) := va.up (by omega)
      have wa' : vks s (s.2 6 a) := wa.up (by omega)
      have vb' : vks s (s.2 5 b) := vb.up (by omega)
      have wb' : vks s (s.2 6 b) := wb.up (by omega)
      rw [((kmt_row hs ha hb e0 e1).2.2 h h3).1] at hF
      refine ⟨by omega, by omega, by omega, ih _ _ _ _ (by omega) (by omega) (by omega) va' vb' ?_⟩
      cases hc : kmt (kts s (s.2 5 a)) (kts s (s.2 5 b)) with
      | false =>
        rw [hc] at hF
        exact ⟨fun _ => hF, fun q => absurd rfl q⟩
      | true =>
        rw [hc] at hF
        refine ⟨fun q => absurd q (by decide), fun _ => ?_⟩
        simp only [hX.1, e6, true_and]
        refine ⟨by omega, by omega, ih _ _ _ _ (by omega) (by omega) (by omega) wa' wb' ?_⟩
        cases hc2 : kmt (kts s (s.2 6 a)) (kts s (s.2 6 b)) with
        | false =>
          rw [hc2] at hF
          exact ⟨fun _ => hF, fun q => absurd rfl q⟩
        | true =>
          rw [hc2] at hF
          exact ⟨fun q => absurd q (by decide), fun _ => hF⟩
    · rw [(kmt_row hs ha hb e0 e1).1 h] at hF
      exact hF
theorem doMeet_ok {a b : Int} {F : Int → SC → Prop} (hX : FIX c ∧ JKi c s) (hs : KJs s) (hm6 : s.1 3 ≤ 1440) (ha : vks s a) (hb : vks s b) (hd : 41 ≤ d) (hF : F (if kmt (kts s a) (kts s b) then 1 else 0) c) : ck iv L h0 d 182 [vr 65, vi a, vi b] c (qi F) := by
  obtain ⟨d, rfl⟩ : ∃ k, d = k + 1 := ⟨d - 1, by omega⟩
  have := (hs.at ha).1
  refine C182 ⟨by simp only [hX.1.1], meeting_okd hX hs hm6 d a b 0 _ (by omega) (by omega) (by omega) ha hb ⟨?_, hF⟩⟩
  cases kmt (kts s a) (kts s b) with
  | true => exact Or.inr rfl
  | false => exact Or.inl rfl
theorem areMeeting_okd {a b : Int} (hs : KJs s) (hm6 : s.1 3 ≤ 1440) (ha : vks s a) (hb : vks s b) : cj iv L h0 A T ρ k 41 70 [vr 307, vi a, vi b] s (qi fun r t => t = s ∧ r = if kmt (kts s a) (kts s b) then 1 else 0) := by
  intro c a3 hv h3 hk
  refine toQ ?_
  show ck iv L h0 41 182 [vr 65, vi a, vi b] c _
  exact doMeet_ok ⟨hv.1, hv.2.2.2⟩ hs hm6 ha hb (Nat.le_refl _) ⟨s, hv, ⟨CX.rf, RMk.rf⟩, rfl, rfl⟩
theorem together_gen : ∀ (q : Nat) (c : SC) (s : SM) (a b dep : Int), VJ A T ρ c s → KJs s → s.2 7 a ≤ q → 0 ≤ dep → dep + s.2 7 a ≤ 41 → vks s a → vks s b → kmt (kts s a) (kts s b) = true → 2 * s.1 3 + s.2 7 a ≤ 2880 → ck iv L h0 (q + 1) 184 [vr 65, vi a, vi b, vi dep] c (qi (QF A T ρ c (fun r t => eqx [3] [4, 5, 6, 7] s t ∧ KJs t ∧ kext s t ∧ 2 * t.1 3 + 1 ≤ 2 * s.1 3 + s.2 7 a ∧ vks t r ∧ kts t r = ktg (kts s a) (kts s b)))) := by
  intro q
  induction q with
  | zero => intro c s a b dep _ hs h1 _ _ ha; have := (hs.at ha).1; omega
  | succ q ih =>
    intro c s a b dep hv hs h1 hd0 hdep ha hb hmt h6
    have hm0 := hs.2.1
    have hn := hs.1.1
    have leaf : ∀ k, (s.2 4 k = 0 → kts s k = .null) ∧ (s.2 4 k = 1 → kts s k = .result) ∧ (s.2 4 k = 2 → kts s k = .thrown) := fun k => kt_leaf hs
    have Ha := hs.at ha
    have Hb := hs.at hb
    have la := ha.lt hn.2 hm0
    have lb := hb.lt hn.2 hm0
    have same : ∀ (r : Int), vks s r → kts s r = ktg (kts s a) (kts s b) → QF A T ρ c (fun r t => eqx [3] [4, 5, 6, 7] s t ∧ KJs t ∧ kext s t ∧ 2 * t.1 3 + 1 ≤ 2 * s.1 3 + s.2 7 a ∧ vks t r ∧ kts t r = ktg (kts s a) (kts s b)) r c := fun r hr hk => ⟨s, hv, ⟨CX.rf, RMk.rf⟩, eqx.rf, hs, kext.rf, by omega, hr, hk⟩
    obtain ⟨hX, -, -, h4, e4, e5, e6, e7⟩ := id hv
    refine C184 ?_
    simp only [hX.1, e4, e5, e6, true_and]
    refine ⟨by omega, fun e => same b hb ?_, fun e0 => ⟨fun _ => ⟨by omega, fun e => same a ha ?_, fun e1 => ⟨fun h3 => ?_, fun h3 => same a ha ?_⟩⟩, fun h => by omega⟩⟩
    · rw [(leaf a).1 e]; cases kts s b <;> rfl
    · rw [(leaf b).1 e]
      cases kts s a <;> rfl
    · obtain ⟨a3, va, wa, ea, sa, ta⟩ := Ha.2.2.2 h3
      have hsame : s.2 4 a = s.2 4 b := by
        by_cases q : s.2 4 a = s.2 4 b
        · exact q
        · rw [(kmt_row hs ha hb e0 e1).1 q] at hmt
          cases hmt
      obtain ⟨hk, hg⟩ := (kmt_row hs ha hb e0 e1).2.2 hsame h3
      rw [hk] at hmt
      have hk2 := Bool.and_eq_true_iff.mp hmt
      obtain ⟨b3, vb, wb, eb, sb, tb⟩ := Hb.2.2.2 (by omega)
      have va' : vks s (s.2 5 a) := va.up (by omega)
      have wa' : vks s (s.2 6 a) := wa.up (by omega)
      have vb' : vks s (s.2 5 b) := vb.up (by omega)
      have wb' : vks s (s.2 6 b) := wb.up (by omega)
      refine ⟨by omega, by omega, by omega, wci_mono (ih c s _ _ _ hv hs (by omega) (by omega) (by omega) va' vb' hk2.1 (by omega)) (Nat.le_refl _) ?_⟩
      rintro r1 c1 ⟨t, hv1, hx1, q1, q2, q3, q4, q5, q6⟩
      have va2 := kext_vk q3 va'
      have wa2 := kext_vk q3 wa'
      have wb2 := kext_vk q3 wb'
      have ra := q3.2.2 a la.2
      have rb := q3.2.2 b lb.2
      have rwa := q3.2.2 _ (wa'.lt hn.2 hm0).2
      obtain ⟨hX1, -, -, h41, e41, e51, e61, e71⟩ := id hv1
      simp only [hX1.1, e61, e41, true_and]
      rw [ra.2.2.1, rb.2.2.1]
      refine ⟨by omega, by omega, wci_mono (ih c1 t _ _ _ hv1 q2 (by rw [rwa.2.2.2]; omega) (by omega) (by rw [rwa.2.2.2]; omega) wa2 wb2 (by rw [kext_kt q3 hs wa', kext_kt q3 hs wb']; exact hk2.2) (by rw [rwa.2.2.2]; omega)) (Nat.le_refl _) ?_⟩
      rintro r2 c2 ⟨u, hv2, hx2, p1, p2, p3, p4, p5, p6⟩
      rw [rwa.2.2.2] at p4
      obtain ⟨hX2, -, -, h42, e42, e52, e62, e72⟩ := id hv2
      have ra2 := (p3.2.2 a (Int.lt_of_lt_of_le la.2 q3.2.1)).1
      simp only [hX2.1, e42, true_and]
      rw [ra2, ra.1]
      refine ⟨by omega, inQ (makeKind_okd (A := A) (T := T) (ρ := ρ) (k := 0) p2 (by omega) (kext_vk p3 q5) p5 (by omega) c2 0 hv2 (Int.le_refl _) (by decide)) (by omega) ?_⟩
      rintro r3 c3 w hv3 hx3 ⟨o1, o2, o3, o4, o5, o6⟩
      refine QF.tr hx1 (QF.tr hx2 ⟨w, hv3, hx3, (q1.tr p1).tr o1, o2, (q3.tr p3).tr o3, by omega, o5, ?_⟩)
      rw [o6, kext_kt p3 q2 q5, q6, p6, kext_kt q3 hs wa', kext_kt q3 hs wb', hg]
    · rcases (show s.2 4 a = 1 ∨ s.2 4 a = 2 by omega) with f | f
      · rw [(leaf a).2.1 f]; cases kts s b <;> rfl
      · rw [(leaf a).2.2 f]; cases kts s b <;> rfl
theorem together_okd {a b : Int} (hs : KJs s) (ha : vks s a) (hb : vks s b) (hmt : kmt (kts s a) (kts s b) = true) (h6 : s.1 3 + 20 ≤ 1440) : cj iv L h0 A T ρ k 41 71 [vr 307, vi a, vi b] s (qi fun r t => eqx [3] [4, 5, 6, 7] s t ∧ KJs t ∧ kext s t ∧ t.1 3 ≤ s.1 3 + 20 ∧ vks t r ∧ kts t r = ktg (kts s a) (kts s b)) := by
  intro c a3 hv h3 hk
  have h1 := (hs.at ha).1
  refine toQ (wci_mono (together_gen (A := A) (T := T) (ρ := ρ) 40 c s a b 0 hv hs (by omega) (Int.le_refl _) (by omega) ha hb hmt (by omega)) (Nat.le_refl _) ?_)
  rintro r e ⟨t, q0, q1, q2, q3, q4, q5, q6, q7⟩
  exact ⟨t, q0, q1, q2, q3, q4, by omega, q6, q7⟩
end
