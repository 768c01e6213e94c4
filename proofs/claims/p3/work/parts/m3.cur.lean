/-! Steps of the pair: meet, the cursor, the box. -/
section
variable {iv : List (Int × Int)} {L : Nat} {h0 : MH}
theorem meeting_40 {s : SM} (hs : KJ (s.1 2) 40 (s.2 4) (s.2 5) (s.2 6) (s.2 7)) : ∀ (q : Nat) (a b : Int), s.2 7 a ≤ q → vk (s.1 2) 40 a → vk (s.1 2) 40 b → cm iv L h0 q 70 [vr 307, vi a, vi b] s (qi fun r t => t = s ∧ r = if kmt (kts s a) (kts s b) then 1 else 0) := by
  have hm0 := hs.2.1
  have hn := hs.1.1
  have leaf : ∀ k, (s.2 4 k = 0 → kts s k = .null) ∧ (s.2 4 k = 1 → kts s k = .result) ∧ (s.2 4 k = 2 → kts s k = .thrown) := fun k => kt_leaf hs
  have node : ∀ k, vk (s.1 2) 40 k → (s.2 4 k = 3 → kts s k = .add (kts s (s.2 5 k)) (kts s (s.2 6 k))) ∧ (s.2 4 k = 4 → kts s k = .mul (kts s (s.2 5 k)) (kts s (s.2 6 k))) := fun k hk => kt_node hs hk
  have n0 : kts s 0 = .null := (leaf 0).1 (hs.1.2.1 0 (by omega) (by omega)).1
  have nnl : ∀ x : Term, kmt x .null = true := fun x => by cases x <;> rfl
  intro q
  induction q with
  | zero => intro a b h1 ha hb; have := (hs.at ha).1; omega
  | succ q ih =>
    intro a b h1 ha hb
    have Ha := hs.at ha
    have Hb := hs.at hb
    have la := ha.lt hn.2 hm0
    have lb := hb.lt hn.2 hm0
    refine B70 ⟨fun e => ⟨rfl, by subst e; rw [n0]; rfl⟩, fun e => ⟨fun e2 => ⟨by omega, by omega, fun e3 => ⟨fun e4 => ?_, fun e4 => ?_⟩, fun e3 => ?_⟩, fun e2 => ⟨rfl, by subst e2; rw [n0, nnl]; rfl⟩⟩⟩
    · -- both of one sign
      refine ⟨rfl, ?_⟩
      have ka := (Ha.2.2.1 e4).1
      rcases (show s.2 4 a = 1 ∨ s.2 4 a = 2 by omega) with e5 | e5
      · rw [(leaf a).2.1 e5, (leaf b).2.1 (by omega)]; rfl
      · rw [(leaf a).2.2 e5, (leaf b).2.2 (by omega)]; rfl
    · obtain ⟨a3, va, wa, ea, sa, ta⟩ := Ha.2.2.2 e4
      obtain ⟨b3, vb, wb, eb, sb, tb⟩ := Hb.2.2.2 (by omega)
      have va' : vk (s.1 2) 40 (s.2 5 a) := va.up (by omega)
      have wa' : vk (s.1 2) 40 (s.2 6 a) := wa.up (by omega)
      have vb' : vk (s.1 2) 40 (s.2 5 b) := vb.up (by omega)
      have wb' : vk (s.1 2) 40 (s.2 6 b) := wb.up (by omega)
      have hk : kmt (kts s a) (kts s b) = (kmt (kts s (s.2 5 a)) (kts s (s.2 5 b)) && kmt (kts s (s.2 6 a)) (kts s (s.2 6 b))) := by
        rcases (show s.2 4 a = 3 ∨ s.2 4 a = 4 by omega) with e5 | e5
        · rw [(node a ha).1 e5, (node b hb).1 (by omega)]; rfl
        · rw [(node a ha).2 e5, (node b hb).2 (by omega)]; rfl
      rw [hk]
      refine wci_mono (ih _ _ (by omega) va' vb') (Nat.le_refl _) ?_
      rintro r t ⟨rfl, rfl⟩
      cases hc : kmt (kts t (t.2 5 a)) (kts t (t.2 5 b)) with
      | false => exact ⟨fun _ => ⟨rfl, rfl⟩, fun h => absurd rfl h⟩
      | true =>
        refine ⟨fun h => absurd h (by decide), fun _ => wci_mono (ih _ _ (by omega) wa' wb') (Nat.le_refl _) ?_⟩
        rintro r u ⟨rfl, rfl⟩
        cases hc2 : kmt (kts u (u.2 6 a)) (kts u (u.2 6 b)) with
        | false => exact ⟨fun _ => ⟨rfl, rfl⟩, fun h => absurd rfl h⟩
        | true => exact ⟨fun h => absurd h (by decide), fun _ => ⟨rfl, rfl⟩⟩
    · refine ⟨rfl, ?_⟩
      have z1 : s.2 4 a ≠ 0 := fun h => e (by have := (Ha.2.2.1 (by omega)).1; omega)
      have z2 : s.2 4 b ≠ 0 := fun h => e2 (by have := (Hb.2.2.1 (by omega)).1; omega)
      have : kmt (kts s a) (kts s b) = false := by
        rcases (show s.2 4 a = 1 ∨ s.2 4 a = 2 ∨ s.2 4 a = 3 ∨ s.2 4 a = 4 by omega) with f | f | f | f <;> rcases (show s.2 4 b = 1 ∨ s.2 4 b = 2 ∨ s.2 4 b = 3 ∨ s.2 4 b = 4 by omega) with f2 | f2 | f2 | f2
        all_goals first
          | (exfalso; omega)
          | (rw [(leaf a).2.1 f, (leaf b).2.2 f2]; rfl)
          | (rw [(leaf a).2.1 f, (node b hb).1 f2]; rfl)
          | (rw [(leaf a).2.1 f, (node b hb).2 f2]; rfl)
          | (rw [(leaf a).2.2 f, (leaf b).2.1 f2]; rfl)
          | (rw [(leaf a).2.2 f, (node b hb).1 f2]; rfl)
          | (rw [(leaf a).2.2 f, (node b hb).2 f2]; rfl)
          | (rw [(node a ha).1 f, (leaf b).2.1 f2]; rfl)
          | (rw [(node a ha).1 f, (leaf b).2.2 f2]; rfl)
          | (rw [(node a ha).1 f, (node b hb).2 f2]; rfl)
          | (rw [(node a ha).2 f, (leaf b).2.1 f2]; rfl)
          | (rw [(node a ha).2 f, (leaf b).2.2 f2]; rfl)
          | (rw [(node a ha).2 f, (node b hb).1 f2]; rfl)
      rw [this]
      rfl
end
section
variable {iv : List (Int × Int)} {L : Nat} {h0 : MH} {A A' : Int → Nat} {c e : SC} {s w v u : SM} {t t' : Term} {n : Int} {K K' : List Snap} {Sh : Int → Option Snap} {V : Term} {W : List (Int × Int)} {ys : List (Nat × Nat)} {rs : List Nat} {d d2 : Nat} {z a b i j k q x f r : Int}
theorem meet3_ok {F : Int → SM → Prop} (hK : KIs s) (hdd : 50 ≤ d) (H : F (metA s a b) s) : cm iv L h0 d 72 [vr 307, vi a, vi b] s (qi F) := by
  obtain ⟨d, rfl⟩ : ∃ k, d = k + 2 := ⟨d - 2, by omega⟩
  unfold metA at H
  have h3 := KJ_40 hK
  refine B72 ⟨hK.1, fun ha => ⟨fun hb => ?_, fun hb => by rw [if_neg (by omega)] at H; exact H⟩, fun ha => by rw [if_neg (by omega)] at H; exact H⟩
  rw [if_pos ⟨ha, hb⟩, kks_told ha, kks_told hb] at H
  refine wci_mono (meeting_40 h3 40 a b (h3.at (k := a) (Or.inl ha)).1.2 (Or.inl ha) (Or.inl hb)) (by omega) ?_
  rintro r w ⟨rfl, rfl⟩
  cases h : kmt (kts w a) (kts w b) with
  | true => rw [h] at H; exact ⟨fun q => absurd q (by decide), fun _ => H⟩
  | false => rw [h] at H; exact ⟨fun _ => H, fun q => absurd rfl q⟩
theorem ps_meet (h : PAIR n s c) (hdd : 410 ≤ d) (hd2 : 400 ≤ d2) : cm iv L h0 d 72 [vr 307, vi a, vi b] s (qi fun r s' => ∀ h0', ck iv L h0' d2 4 [vr 64, vi a, vi b] c (qi (PQ (n + 1) c r s'))) := by
  have hP := h
  obtain ⟨A, t, K, Sh, V, W, hM, hD⟩ := h
  exact meet3_ok hM.1.2.1 (by omega) (fun h0' => meet_c hD.1.1 hM.1.2.1 (by omega) (same_pair hP SX.rf))
theorem us_id : us s 16 (s.1 16) = s := by
  have : (fun y => if y = 16 then s.1 16 else s.1 y) = s.1 := funext fun y => by
    by_cases g : y = 16
    · rw [if_pos g, g]
    · rw [if_neg g]
  unfold us
  rw [this]
/-- the cursor put on a node -/
theorem cur_pair (hM : MS n s t K Sh V W) (hD : DKc A c s t K Sh ∧ WKD A c s V ∧ DLK A c s t W) (hb : b ∈ fl t) (hx : SX [] [] (us s 16 b) w) (h1 : R1 A e (us s 16 b) t) (hc : CX [(8, 2)] [] c e) (hr : RMk 0 0 c e) : PAIR n w e ∧ RQ c e := by
  obtain ⟨d1, d2, d3⟩ := id hD
  have hX := d1.1.1.1
  have hT := hM.1.1
  have x0 : SX [16] [] s (us s 16 b) := SX.eq (ys := [16]) (fs := []) (eqx_us eqx.rf (by decide)) (by decide) (by decide)
  have sx : SX [16] [] s w := x0.tr (hx.up (by decide) (by decide))
  have h0 : AFT (us s 16 b) t := ⟨hT.1.x x0 (by decide) (by decide), hT.2.1.x x0 hT.1.2.2.2.2.1.2 (by decide) (by decide), hb⟩
  have hA : AFT w t := h0.x hx (by decide) (by decide)
  have K0 := KIs_x hM.1.2.1 x0 (by decide) (by decide)
  have hM' : MS n w t K Sh V W := MS_g hM sx (by decide) (by decide) hA (KIs_x hM.1.2.1 sx (by decide) (by decide)) (BX_x hM.2.1.1 sx (by decide) (by decide) (by rw [sx.1 8 (by decide) (by decide)]; exact Int.le_refl _)) (hM.2.1.2.x sx (by decide)) (hM.2.2.1.2.x sx (by decide) (by decide))
  have r1 := R1_sx h1 h0.1 hA.1 h0.2.1 K0 hx (by decide) (by decide)
  have sb := SBX_x sx (by decide) (by decide)
  have np : NPY [(8, 2)] [] := ⟨fun y => ⟨by simp, by simp⟩, ⟨by decide, by decide⟩, by decide, by decide, by decide, by decide⟩
  exact oth_pair hM hD hM' hc hr sx np ⟨fun y => by simp, ⟨by decide, by decide⟩, fun k => by simp, fun k => by simp, by decide⟩ ⟨by decide, by decide⟩ (by decide) (by decide) ⟨r1, ⟨(d1.2.1.1.x hX hc (by decide) (by decide)).sb sb, (d1.2.1.2.1.x hX hc (by decide) (by decide)).sb sb, d1.2.1.2.2.x hX hc (by decide) (fun a ha => by cases ha)⟩, d1.2.2.1.x hX EXT.rf hT.1.2.2.2.2.1.1 (KPs hM) hc (by decide) (by decide), d1.2.2.2.x hX hc (by decide) (fun a ha => by cases ha)⟩
theorem kid_in (hT : AFT s t) {x i : Int} (hx : x ∈ fl t) (i0 : 0 ≤ i) (i1 : i < pO (s.2 9 x)) : s.2 14 (3 * x + i) ∈ fl t := ((AT_mem t hT.1.1 x hx).2.2.1 i i0 i1 (fun w => by have := hT.1.2.1; unfold full at this; rw [this, ← w]; exact i1)).1
theorem bes_in (hT : AFT s t) (z : Int) : besA s z = -9 ∨ besA s z ∈ fl t := by
  have hS := hT.1
  unfold besA
  by_cases w : s.2 12 (s.1 16) = -9
  · rw [if_pos w]; exact Or.inl rfl
  · rw [if_neg w]
    by_cases w2 : 0 ≤ s.2 13 (s.1 16) + z ∧ s.2 13 (s.1 16) + z < pO (s.2 9 (s.2 12 (s.1 16)))
    · rw [if_pos w2]; exact Or.inr (kid_in hT (hS.up9 hT.2.2 (fun w' => w (by rw [w']; exact hS.2.2.2.2.2.2.1))) w2.1 w2.2)
    · rw [if_neg w2]; exact Or.inl rfl
theorem goG_in (hT : AFT s t) : goG s t k = -9 ∨ goG s t k ∈ fl t := by
  have hS := hT.1
  unfold goG
  split
  · by_cases w : s.1 16 = hd t
    · left; rw [w]; exact hS.2.2.2.2.2.2.1
    · right; exact hS.up9 hT.2.2 w
  · split
    · split
      · rename_i g
        have := kid_in hT hT.2.2 (i := 0) (Int.le_refl _) g
        rw [Int.add_zero] at this
        exact Or.inr this
      · exact Or.inl rfl
    · split
      · exact bes_in hT 1
      · split
        · exact bes_in hT (-1)
        · split
          · exact (bhd_in (isH s) (s.1 16) (fl t) false).imp id (fun w => w.1)
          · right
            rw [← hS.2.2.2.2.2.1]
            exact hd_mem t hS.1
theorem ps_go (h : PAIR n s c) (hdd : 410 ≤ d) (hd2 : 400 ≤ d2) : cm iv L h0 d 105 [vr 307, vi k] s (qi fun r s' => ∀ h0', ck iv L h0' d2 11 [vr 64, vi k] c (qi (PQ (n + 1) c r s'))) := by
  have hP := h
  obtain ⟨A, t, K, Sh, V, W, hM, hD⟩ := h
  have hT := hM.1.1
  refine go_ok hT.1 hT.2.2 (by omega) (fun w hw h0' => go_c hD.1.1 hT (by omega) (fun e h1 hc hr => ?_))
  unfold goU at hw h1
  by_cases g : (0 ≤ k ∧ k ≤ 5) ∧ goG s t k ≠ -9
  · rw [if_pos g] at hw h1
    have := cur_pair hM hD ((goG_in hT).resolve_left g.2) hw h1 hc hr
    exact ⟨rfl, PAIR_up this.1 (by omega), this.2⟩
  · rw [if_neg g] at hw h1
    have x0 := us_id (s := s)
    have := cur_pair (b := s.1 16) hM hD hT.2.2 (by rw [x0]; exact hw) (by rw [x0]; exact h1) hc hr
    exact ⟨rfl, PAIR_up this.1 (by omega), this.2⟩
theorem ps_seek (h : PAIR n s c) (hdd : 410 ≤ d) (hd2 : 400 ≤ d2) : cm iv L h0 d 106 [vr 307, vi b] s (qi fun r s' => ∀ h0', ck iv L h0' d2 12 [vr 64, vi b] c (qi (PQ (n + 1) c r s'))) := by
  have hP := h
  obtain ⟨d2, rfl⟩ : ∃ k, d2 = k + 1 := ⟨d2 - 1, by omega⟩
  obtain ⟨A, t, K, Sh, V, W, hM, hD⟩ := h
  have hT := hM.1.1
  refine seek_ok hT.1 (by omega) (fun w hw h0' => seek_c hD.1.1 hT.1 (fun e h1 hc hr => ?_))
  unfold seeU at hw h1
  by_cases g : b ∈ fl t
  · rw [if_pos g] at hw h1
    have := cur_pair hM hD g hw h1 hc hr
    exact ⟨rfl, PAIR_up this.1 (by omega), this.2⟩
  · rw [if_neg g] at hw h1
    have x0 := us_id (s := s)
    have := cur_pair (b := s.1 16) hM hD hT.2.2 (by rw [x0]; exact hw) (by rw [x0]; exact h1) hc hr
    exact ⟨rfl, PAIR_up this.1 (by omega), this.2⟩
end
