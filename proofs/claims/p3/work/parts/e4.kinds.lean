/-! Looks by the desk: share, count, kinds told, signs. -/
theorem tdiv_inL {a b : Int} (ha : inL a) (h1 : b ≠ -1) (h0 : b ≠ 0) : inL (a.tdiv b) := by
  unfold inL at ha ⊢
  by_cases e : b = 1
  · subst e
    rw [Int.tdiv_one]
    exact ha
  · have h2 : 2 ≤ b.natAbs := by omega
    have h3 : (a.tdiv b).natAbs = a.natAbs / b.natAbs := Int.natAbs_tdiv a b
    have h4 : a.natAbs / b.natAbs ≤ a.natAbs / 2 := Nat.div_le_div_left h2 (by decide)
    omega
section
variable {iv : List (Int × Int)} {L : Nat} {h0 : MH} {A A' : Int → Nat} {c e : SC} {s s' w : SM} {t : Term} {d : Nat} {ys : List (Nat × Nat)} {rs : List Nat} {K : List Snap}
theorem crs_ok {ci y M : Nat} {as : List VV} {X : Option VV → SC → Prop} (hc : ci < 12) (hy : y < nfl ci) (hr : isRf ci y = false) (h : (∀ a, kl c a = ci + 1 → inR (fI c a y)) → ck iv L h0 d M as c X) : ck iv L h0 d M as c X := wc_ok (fun _ ⟨H, hH⟩ => by
  obtain ⟨-, -, -, h4, -⟩ := hH
  refine h (fun a hk => ?_)
  obtain ⟨fs, -, -, h7⟩ := h4 a ci hk hc
  exact ((h7 y hy).2 hr).2)
theorem share_c {i j : Int} {F : Int → SC → Prop} (hX : FIX c) (hN : ND A c s) (hb : BXc A c s) (hB : BX s) (hn : FNc c s) (hr : ∀ f, 0 ≤ f → f < 6 → 0 ≤ s.2 1 f ∧ s.2 1 f ≤ 600) (hF : ∀ e, CX [(1, 13), (1, 14)] [198] c e → RMk 0 0 c e → BXc A e (shaU s i j) → FNc e (shaU s i j) → F (shaA s i j) e) : ck iv L h0 (d + 1) 34 [vr 64, vi i, vi j] c (qi F) := by
  refine crs_ok (ci := 4) (y := 4) (by decide) (by decide) rfl (fun hR => ?_)
  have hk := hX.bx
  have rf : ∀ f, (f = 1 ∨ f = 2 ∨ f = 3 ∨ f = 4) → shaF s i j = f → ck iv L h0 d 47 [vr 64, vi f] c (qi F) := fun f hf hl => by
    refine ref_c hX (by omega) hn hr ?_
    have e1 : shaA s i j = -3 := by unfold shaA; rw [if_neg (by omega)]
    have e2 : shaU s i j = mtU s f := by unfold shaU; rw [if_neg (by omega), hl]
    rw [e1, e2] at hF
    exact hF _ ((refC_x hX).up (by decide) (by decide)) RMk.rf (hb.x hX (refC_x hX) (by decide) (by decide)) (hn.ref (by omega))
  have lk2 : ∀ x, ¬ (0 ≤ x ∧ x < s.1 71) → lakA s x 1 = 2 := fun x hx => by unfold lakA; rw [if_neg hx]
  have lk1 : ∀ x, (0 ≤ x ∧ x < s.1 71) → s.2 72 x = 0 → lakA s x 1 = 1 := fun x hx q => by unfold lakA; rw [if_pos hx, if_pos q]
  have lkn : ∀ x, (0 ≤ x ∧ x < s.1 71) → s.2 72 x ≠ 0 → lakA s x 1 = if s.2 9 (s.2 72 x - 1) = 1 then 0 else 3 := fun x hx q => by unfold lakA; rw [if_pos hx, if_neg q]
  refine C34 ⟨hk.1, inbox_c hX hb (fun hi => ⟨fun w => absurd w (by decide), fun _ => ⟨hk.1, inbox_c hX hb (fun hj => ⟨fun _ => ?_, fun w => absurd w (by decide)⟩) (fun hj => ⟨fun w => absurd rfl w, fun _ => ⟨hk.1, rf 2 (by omega) ?_⟩⟩)⟩⟩) (fun hi => ⟨fun _ => ⟨hk.1, rf 2 (by omega) ?_⟩, fun w => absurd rfl w⟩)⟩
  · obtain ⟨l1, l2⟩ := lak_c hN hb hB hi
    obtain ⟨m1, m2⟩ := lak_c hN hb hB hj
    have h71 := hB.1
    rw [hk.2.1, hk.2.2.1, hk.2.2.2.1]
    refine ⟨hk.1, rfl, by omega, by omega, fun q => rf 1 (by omega) ?_, fun q => ⟨fun q2 => ?_, fun q2 => rf 1 (by omega) ?_⟩⟩
    · have hi0 : s.2 72 i = 0 := Classical.byContradiction fun w => (l2 w).1 q
      unfold shaF
      rw [lk1 i hi hi0, if_neg (fun w => ?_), if_pos (Or.inl rfl)]
      rcases w with w | w
      · omega
      · by_cases z : s.2 72 j = 0
        · rw [lk1 j hj z] at w; omega
        · rw [lkn j hj z] at w; split at w <;> omega
    · have hi0 : s.2 72 i ≠ 0 := fun w => q (l1 w)
      have hj0 : s.2 72 j ≠ 0 := fun w => q2 (m1 w)
      obtain ⟨-, a2, a3, a4⟩ := l2 hi0
      obtain ⟨-, b2, b3, b4⟩ := m2 hj0
      have ei := lkn i hi hi0
      have ej := lkn j hj hj0
      have eF : shaF s i j = if lakA s i 1 = 3 ∨ lakA s j 1 = 3 then 3 else if shaN s j = 0 then 4 else 0 := by
        unfold shaF
        rw [if_neg (fun w => ?_), if_neg (fun w => ?_)]
        · rw [ei, ej] at w; split at w <;> split at w <;> omega
        · rw [ei, ej] at w; split at w <;> split at w <;> omega
      have r1 := hR _ a2
      have r2 := hR _ b2
      unfold inR at r1 r2
      rw [a4] at r1
      rw [b4] at r2
      rw [a3, b3, a4, b4]
      refine ⟨a2, fun w => rf 3 (by omega) ?_, fun w => ⟨b2, fun w2 => ⟨fun w3 => ?_, fun w3 => rf 4 (by omega) ?_⟩, fun w2 => rf 3 (by omega) ?_⟩⟩
      · rw [eF, if_pos (Or.inl (by rw [ei, if_neg w]))]
      · have e0 : shaF s i j = 0 := by rw [eF, if_neg (by rw [ei, ej, if_pos w, if_pos w2]; omega), if_neg (show ¬ shaN s j = 0 from w3)]
        have e1 : shaA s i j = 1 := by unfold shaA; rw [if_pos e0]
        have e2 : shaU s i j = us s 73 (shaV s i j) := by unfold shaU; rw [if_pos e0]
        rw [e1, e2] at hF
        have iL1 : inL (1000 * s.2 10 (s.2 72 i - 1)) := by unfold inL; omega
        have iL2 : inL (s.2 10 (s.2 72 j - 1)) := by unfold inL; omega
        have iL3 : inL ((1000 * s.2 10 (s.2 72 i - 1)).tdiv (s.2 10 (s.2 72 j - 1))) := by
          by_cases z : s.2 10 (s.2 72 j - 1) = -1
          · rw [z, Int.tdiv_neg, Int.tdiv_one]; unfold inL; omega
          · exact tdiv_inL iL1 z w3
        have hx' : CX [(1, 13)] [] c (uI c 64 13 (w32 ((1000 * s.2 10 (s.2 72 i - 1)).tdiv (s.2 10 (s.2 72 j - 1))))) := CX.rf.uI (fun _ => by rw [hk.1]; decide)
        exact ⟨iL1, iL2, w3, iL3, hF _ (hx'.up (by decide) (fun _ q => by cases q)) RMk.rf (hb.x hX hx' (by decide) (by decide)) (hn.x hX hx' (by decide) (by decide))⟩
      · rw [eF, if_neg (by rw [ei, ej, if_pos w, if_pos w2]; omega), if_pos (show shaN s j = 0 from w3)]
      · rw [eF, if_pos (Or.inr (by rw [ej, if_neg w2]))]
    · have hj0 : s.2 72 j = 0 := Classical.byContradiction fun w => (m2 w).1 q2
      have hi0 : s.2 72 i ≠ 0 := fun w => q (l1 w)
      unfold shaF
      rw [lk1 j hj hj0, lkn i hi hi0, if_neg (fun w => ?_), if_pos (Or.inr rfl)]
      split at w <;> omega
  · unfold shaF; rw [lk2 j hj, if_pos (Or.inr rfl)]
  · unfold shaF; rw [lk2 i hi, if_pos (Or.inl rfl)]
theorem kindOf_c {k w : Int} {F : Int → SC → Prop} (hX : FIX c) (hI : KIc c s) (hK : KIs s) (hF : F (kofA s k w) c) : ck iv L h0 (d + 1) 3 [vr 64, vi k, vi w] c (qi F) := by
  obtain ⟨d1, d2, d3, d4, d5⟩ := hX.dk
  have hk : fR c 65 0 = 66 ∧ fR c 65 1 = 67 ∧ fR c 65 2 = 68 ∧ fR c 65 3 = 69 ∧ kl c 66 = 100 ∧ kl c 67 = 100 ∧ kl c 68 = 100 ∧ kl c 69 = 100 ∧ le c 66 = 1440 ∧ le c 67 = 1440 ∧ le c 68 = 1440 ∧ le c 69 = 1440 := by
    simp only [hX.1]
    exact ⟨trivial, trivial, trivial, trivial, trivial, trivial, trivial, trivial, trivial, trivial, trivial, trivial⟩
  obtain ⟨f0, f1, f2, f3, g0, g1, g2, g3, l0, l1, l2, l3⟩ := hk
  have hn := hK.1
  unfold kofA at hF
  refine C3 ⟨d1, by rw [d4]; exact d5, ?_⟩
  rw [d4]
  refine has_c hX hI (fun q => ⟨fun _ => ?_, fun z => absurd z (by decide)⟩) (fun q => ⟨fun z => absurd rfl z, fun _ => by rw [if_neg q] at hF; exact hF⟩)
  rw [if_pos q] at hF
  obtain ⟨r0, r1, r2, r3⟩ := hI.2 k q.1 q.2
  rw [d4, f0, f1, f2, f3, g0, g1, g2, g3, l0, l1, l2, l3, r0, r1, r2, r3]
  refine ⟨fun z => ⟨d1, d5, rfl, by omega, ?_⟩, fun z => ⟨d1, d5, rfl, by omega, ?_⟩, fun z => ⟨d1, d5, rfl, by omega, ?_⟩, fun z => ⟨d1, d5, rfl, by omega, ?_⟩, fun z => ?_⟩
  · rw [if_pos z] at hF; exact hF
  · rw [if_neg (by omega), if_pos z] at hF; exact hF
  · rw [if_neg (by omega), if_neg (by omega), if_pos z] at hF; exact hF
  · rw [if_neg (by omega), if_neg (by omega), if_neg (by omega), if_pos z] at hF; exact hF
  · rw [if_neg (by omega), if_neg (by omega), if_neg (by omega), if_neg (by omega)] at hF; exact hF
theorem meet_c {a b : Int} {F : Int → SC → Prop} (h1 : R1 A c s t) (hK : KIs s) (hd : 42 ≤ d) (hF : F (metA s a b) c) : ck iv L h0 d 4 [vr 64, vi a, vi b] c (qi F) := by
  obtain ⟨d, rfl⟩ : ∃ k, d = k + 1 := ⟨d - 1, by omega⟩
  have hX := h1.1.1
  obtain ⟨d1, d2, d3, d4, d5⟩ := hX.dk
  have hI := h1.2.2.1
  have hJ := h1.2.2.2
  unfold metA at hF
  refine C4 ⟨d1, by rw [d4]; exact d5, ?_⟩
  rw [d4]
  refine has_c hX hI (fun q => ⟨fun z => absurd z (by decide), fun _ => ⟨d1, by rw [d4]; exact d5, ?_⟩⟩) (fun q => ⟨fun _ => by rw [if_neg (fun z => q z.1)] at hF; exact hF, fun z => absurd rfl z⟩)
  rw [d4]
  refine has_c hX hI (fun q2 => ⟨fun _ => ⟨d1, by rw [d4]; exact d5, ?_⟩, fun z => absurd z (by decide)⟩) (fun q2 => ⟨fun z => absurd rfl z, fun _ => by rw [if_neg (fun z => q2 z.2)] at hF; exact hF⟩)
  rw [if_pos ⟨q, q2⟩] at hF
  rw [d4]
  have ek : ∀ k, (0 ≤ k ∧ k < s.1 2) → kts (mx A c s) k = kks s k := fun k hk => hI.kks hK hk.1 hk.2
  refine doMeet_ok (s := mx A c s) ⟨hX, ⟨rfl, rfl⟩, rfl, rfl, rfl, rfl⟩ hJ.1 (by show fI c 65 5 ≤ 1440; have := hJ.2.1; omega) (Or.inl ⟨q.1, by show a < fI c 65 4; rw [hI.1]; exact q.2⟩) (Or.inl ⟨q2.1, by show b < fI c 65 4; rw [hI.1]; exact q2.2⟩) (by omega) ?_
  rw [ek a q, ek b q2]
  cases h : kmt (kks s a) (kks s b) with
  | true => rw [h] at hF; exact ⟨fun z => absurd z (by decide), fun _ => hF⟩
  | false => rw [h] at hF; exact ⟨fun _ => hF, fun z => absurd rfl z⟩
end
