/-! put() by the desk. -/
section
variable {iv : List (Int × Int)} {L : Nat} {h0 : MH} {A A' : Int → Nat} {c e : SC} {s s' : SM} {t : Term} {d : Nat} {P : Int → Prop} {Q : Int → Int → Prop} {K : List Snap}
theorem hlU_9 {b i : Int} {s : SM} (y : Int) : (hlU b i s).2 9 y = if y = s.1 8 then 0 else s.2 9 y := by
  show (partU (bornU s 0 (-9) (-9)) b i (s.1 8)).2 9 y = _
  rw [(partU_e (s := bornU s 0 (-9) (-9)) (b := b) (i := i) (c := s.1 8)).2 9 (by decide)]
  show (if (9 : Nat) = 11 ∧ y = s.1 8 then kvl 0 (-9) else if (9 : Nat) = 10 ∧ y = s.1 8 then nvl 0 (-9) else if (9 : Nat) = 9 ∧ y = s.1 8 then (0 : Int) else s.2 9 y) = _
  simp
theorem hlsU_9 {b : Int} : ∀ (m : Nat) (i : Int) (s : SM) (y : Int), (hlsU b m i s).2 9 y = if s.1 8 ≤ y ∧ y < s.1 8 + m then 0 else s.2 9 y := by
  intro m
  induction m with
  | zero => intro i s y; rw [if_neg (by omega)]; rfl
  | succ m ih =>
    intro i s y
    show (hlsU b m (i + 1) (hlU b i s)).2 9 y = _
    rw [ih, hlU_9, hlU_8]
    by_cases q : s.1 8 + 1 ≤ y ∧ y < s.1 8 + 1 + m
    · rw [if_pos q, if_pos (by omega)]
    · rw [if_neg q]
      by_cases q2 : y = s.1 8
      · rw [if_pos q2, if_pos (by omega)]
      · rw [if_neg q2, if_neg (by omega)]
def pyY : List (Nat × Nat) := (8, 4) :: lys
theorem put_loop_c {b n : Int} {lo : Nat} {F : Int → SC → Prop} (hlo : 353 ≤ lo) : ∀ (m : Nat) (i : Int) (A : Int → Nat) (c : SC) (s : SM) (P : Int → Prop) (Q : Int → Int → Prop), OP A c s P Q → i + m = n → 0 ≤ i → n = pO (s.2 9 b) → (0 ≤ b ∧ b < s.1 8) → s.1 8 + m ≤ 3000 → NWc lo c →
    (∀ (A' : Int → Nat) (e : SC), OP A' e (hlsU b m i s) (fun x => P x ∨ (s.1 8 ≤ x ∧ x < s.1 8 + m)) (fun x j => Q x j ∨ (x = b ∧ i ≤ j ∧ j < i + m)) → EXT A A' (s.1 8) → CX pyY [1103] c e → RMk (2 * m) (16 * m) c e → NWc lo e → ck iv L h0 (d + 1) 52 [vr 64] (uR e 70 2 (A' b)) (qv fun s3 => (kl s3 (A' b) = 5) ∧ F (fI s3 (A' b) 0) s3)) → wk iv L h0 (d + 2) 13 207 [lr 64, ln, ln, ln, ln, ln, li n, lr (A b), li i] [] c (qi F) := by
  intro m
  induction m with
  | zero =>
    intro i A c s P Q hO hin hi hn hb hB hW hF
    obtain ⟨a1, a2, a3, -⟩ := hO.1.1.dk
    refine C13_207 ⟨fun _ => ?_, fun q => by omega⟩
    rw [a3]
    refine ⟨a1, a2, hF A c ?_ EXT.rf CX.rf RMk.rf hW⟩
    obtain ⟨⟨hX, hN, hI⟩, ⟨hL, hP⟩, r⟩ := hO
    exact ⟨⟨hX, hN, ⟨fun x hx => hI.1 x (hx.resolve_right (by omega)), fun x j hx => hI.2 x j (hx.resolve_right (by omega))⟩⟩, ⟨fun x hx => hL x (hx.resolve_right (by omega)), fun x j hx => hP x j (hx.resolve_right (by omega))⟩, r⟩
  | succ m ih =>
    intro i A c s P Q hO hin hi hn hb hB hW hF
    obtain ⟨a1, a2, a3, -⟩ := hO.1.1.dk
    have b8 : fI c 70 4 = s.1 8 := hO.2.2.1.2.1
    have hB0 := hO.2.2.2.2.1
    have hpn := pO_in (s.2 9 b)
    refine C13_207 ⟨fun q => by omega, fun _ => ?_⟩
    rw [a3]
    refine ⟨a1, a2, born_c hO.1.1 (by omega) (by omega) (fun c2 hb2 => ?_)⟩
    have hb2' : BORN c c2 0 (nvl 0 (-9)) (kvl 0 (-9)) := hb2
    obtain ⟨hO2, hnew, hE2⟩ := op_born hO hb2' (by omega) (by omega)
    have hk5 := hO2.1.2.1.2 b hb.1 (by show b < s.1 8 + 1; omega)
    rw [hE2 b hb.2] at hk5
    refine ⟨hk5.1.1, ?_⟩
    rw [← hnew, ← hE2 b hb.2]
    have e9 : (bornU s 0 (-9) (-9)).2 9 b = s.2 9 b := ((bornU_o (s := s) (so := 0) (v := -9) (k := -9)) b hb.2).1.1
    refine hang_c hO2 (y := s.1 8) ⟨hb.1, by show b < s.1 8 + 1; omega⟩ ⟨hB0, by show s.1 8 < s.1 8 + 1; omega⟩ ⟨hi, by rw [e9]; omega⟩ (fun c3 hO3 hx3 hr3 => ⟨by omega, ?_⟩)
    refine ih (i + 1) _ c3 (hlU b i s) _ _ hO3 (by omega) (by omega) ?_ ⟨hb.1, by rw [hlU_8]; omega⟩ (by rw [hlU_8]; omega) ((hW.b hlo hb2).x hlo hx3 hr3 (by decide)) (fun A' e hOe hEe hxe hre hWe => ?_)
    · rw [hlU_9, if_neg (by omega)]; exact hn
    · have hEA : EXT A A' (s.1 8) := hE2.tr hEe (by rw [hlU_8]; omega)
      refine hF A' e ?_ hEA ?_ ?_ hWe
      · obtain ⟨⟨hX, hN, hI⟩, ⟨hL, hP⟩, r⟩ := hOe
        rw [hlU_8] at hI hL
        exact ⟨⟨hX, hN, ⟨fun x hx => hI.1 x (by
          rcases hx with hx | hx
          · exact Or.inl (Or.inl hx)
          · by_cases q : x = s.1 8
            · exact Or.inl (Or.inr q)
            · exact Or.inr (by omega)), fun x j hx => hI.2 x j (by
          rcases hx with hx | hx
          · exact Or.inl (Or.inl hx)
          · by_cases q : j = i
            · exact Or.inl (Or.inr ⟨hx.1, q⟩)
            · exact Or.inr ⟨hx.1, by omega, by omega⟩)⟩⟩, ⟨fun x hx => hL x (by
          rcases hx with hx | hx
          · exact Or.inl (Or.inl hx)
          · by_cases q : x = s.1 8
            · exact Or.inl (Or.inr q)
            · exact Or.inr (by omega)), fun x j hx => hP x j (by
          rcases hx with hx | hx
          · exact Or.inl (Or.inl hx)
          · by_cases q : j = i
            · exact Or.inl (Or.inr ⟨hx.1, q⟩)
            · exact Or.inr ⟨hx.1, by omega, by omega⟩)⟩, r⟩
      · exact (hb2.1.up (ys' := pyY) (rs' := [1103]) (by decide) (fun _ q => by cases q)).tr ((hx3.up (by decide) (by decide)).tr hxe)
      · have r2 : RMk 2 16 c c2 := ⟨by have := hb2.2.1.1; omega, hb2.2.1.2⟩
        exact ((r2.tr hr3).tr hre).up (by omega) (by omega)
/-- how many of a node's parts there are -/
theorem op_mo {P' : Int → Prop} {Q' : Int → Int → Prop} (h : OP A c s P Q) (hP : ∀ x, P' x → P x) (hQ : ∀ x i, Q' x i → Q x i) : OP A c s P' Q' := by
  obtain ⟨⟨hX, hN, hI⟩, ⟨hL, hPT⟩, r⟩ := h
  exact ⟨⟨hX, hN, ⟨fun x hx => hI.1 x (hP x hx), fun x j hx => hI.2 x j (hQ x j hx)⟩⟩, ⟨fun x hx => hL x (hP x hx), fun x j hx => hPT x j (hQ x j hx)⟩, r⟩
theorem put_mem {so v k : Int} (hS : SHT s t) (hc : s.1 16 ∈ fl t) (hg : putOk s t so v k) {x : Int} (hx : x ∈ fl (putT s t so)) : x ∈ fl t ∨ x = s.1 8 ∨ (s.1 8 + 1 ≤ x ∧ x < s.1 8 + 1 + (if s.2 9 (s.1 16) = 0 then pO so else pO so - 1)) := by
  have hB := hS.2.2.2.2.1
  have hp := pO_in so
  obtain ⟨g0, g5, -⟩ := hg
  unfold putT at hx
  rcases mem_rpT hS hc hx with q | q
  · exact Or.inl q
  · by_cases e : s.2 9 (s.1 16) = 0
    · rw [if_pos e] at q ⊢
      rcases adds_mem q with w | w
      · have := List.mem_singleton.mp w
        right; left; omega
      · right; right; omega
    · rw [if_neg e] at q ⊢
      rcases adds_mem q with w | w
      · rcases List.mem_append.mp w with w | w
        · have := List.mem_singleton.mp w
          right; left; omega
        · obtain ⟨b1, b2, b3, b4, b5, b6, b7⟩ := sq_ok hS.1 hS.2.1 hS.2.2.1 hc
          exact Or.inl (b4 x w)
      · right; right; omega
/-- the new node has been put; holes follow -/
theorem put_end {so v k r : Int} {F : Int → SC → Prop} (h1 : R1 A c s t) (hT : AFT s t) (hK : KIs s) (hKP : ∀ u, u ∈ K → KP s u) (hg : putOk s t so v k) (hD : 300 ≤ d) (H2 : ∀ e, ACT A c s t K e (putU s so v k) (putT s t so) → F (s.1 8) e)
    {c1 c2 : SC} (hO1 : OP A c1 s (fun x => x ∈ fl t) (fun b i => b ∈ fl t ∧ 0 ≤ i ∧ i < pO (s.2 9 b))) (hK1 : KSc A c1 (push K (t, s))) (hx1 : CX kys snR c c1) (hr1 : RMk 0 0 c c1) (hb2 : BORN c1 c2 so (nvl so v) (kvl so k)) :
    ck iv L h0 (d + 1) 208 [vr 70, vr (A (s.1 16)), vr (nxt c1)] c2 (qv fun s14 => (s.2 9 (s.1 16) ≠ 0 → (kl s14 (nxt c1) = 5) ∧ ck iv L h0 (d + 1) 188 [vr (nxt c1), vi 0, vr (A (s.1 16))] s14 (qv fun s16 => wk iv L h0 (d + 2) 13 207 [lr 64, ln, ln, ln, ln, ln, li (pO so), lr (nxt c1), li 1] [] s16 (qi F))) ∧ (s.2 9 (s.1 16) = 0 → wk iv L h0 (d + 2) 13 207 [lr 64, ln, ln, ln, ln, ln, li (pO so), lr (nxt c1), li 0] [] s14 (qi F))) := by
  have hS := hT.1
  have hB := hS.2.2.2.2.1
  have hcb := hS.m _ hT.2.2
  obtain ⟨⟨g1, g2, g3, g4⟩, g5, g6, g7⟩ := id hg
  have hp := pO_in so
  have hB3 : s.1 8 < 3000 ∧ s.1 8 + (if s.2 9 (s.1 16) = 0 then 1 + pO so else pO so) ≤ 3000 ∧ (s.2 9 (s.1 16) ≠ 0 → 1 ≤ pO so) := by
    unfold pfr at g7
    by_cases e : s.2 9 (s.1 16) = 0
    · rw [if_pos e] at g7 ⊢; omega
    · rw [if_neg e] at g7 ⊢; omega
  have hX1 := hO1.1.1
  have hl3 := h1.1.1.2.2.1
  obtain ⟨hO2, hnew, hE2⟩ := op_born hO1 hb2 hB3.1 (by omega)
  have he := bornU_e (s := s) (so := so) (v := v) (k := k)
  have hold := bornU_o (s := s) (so := so) (v := v) (k := k)
  have hat := bornU_at (s := s) (so := so) (v := v) (k := k)
  have hre := replU_e (s := bornU s so v k) (o := s.1 16) (c := s.1 8)
  rw [← hnew, ← hE2 (s.1 16) hcb.2]
  have b8 : (bornU s so v k).1 8 = s.1 8 + 1 := rfl
  have r8 : (replU (bornU s so v k) (s.1 16) (s.1 8)).1 8 = s.1 8 + 1 := (hre.1 8 (by decide)).trans b8
  have r9 : (replU (bornU s so v k) (s.1 16) (s.1 8)).2 9 (s.1 8) = so := by rw [hre.2 9 (by decide)]; exact hat.1
  have r9o : ∀ x, x < s.1 8 → (replU (bornU s so v k) (s.1 16) (s.1 8)).2 9 x = s.2 9 x := fun x hx => by rw [hre.2 9 (by decide)]; exact (hold x hx).1.1
  refine repl_c hO2 hT.2.2 ⟨hB.1, by rw [b8]; omega⟩ (fun q => ?_) (fun c3 hO3 hx3 hr3 => ?_)
  · rw [he.2 12 (by decide)] at q ⊢
    rw [he.2 13 (by decide)]
    have hu := pl_in hS hT.2.2 q
    have hum : s.2 12 (s.1 16) ∈ fl t := hS.up9 hT.2.2 (fun w => q (by rw [w]; exact hS.2.2.2.2.2.2.1))
    rw [(hold _ (hS.m _ hum).2).1.1]
    exact hu
  have hAft := put_aft hT hg
  -- the end, for either way
  have fin : ∀ (m : Nat) (i : Int) (A3 : Int → Nat) (c4 : SC) (s4 : SM) (P4 : Int → Prop) (Q4 : Int → Int → Prop), OP A3 c4 s4 P4 Q4 → EXT A A3 (s.1 8) → putU s so v k = us (hlsU (s.1 8) m i s4) 16 (s.1 8) → s4.1 8 = s.1 8 + 1 → (∀ x, x < s.1 8 → s4.2 9 x = s.2 9 x) → s4.2 9 (s.1 8) = so → (s4.1 2 = s.1 2 ∧ s4.2 4 = s.2 4 ∧ s4.2 5 = s.2 5 ∧ s4.2 6 = s.2 6 ∧ s4.2 7 = s.2 7) → (∀ x, x ∈ fl t ∨ x = s.1 8 → P4 x) → (∀ x j, x ∈ fl t → 0 ≤ j → j < pO (s.2 9 x) → Q4 x j) → (∀ j, 0 ≤ j → j < i → Q4 (s.1 8) j) → i + m = pO so → 0 ≤ i → (m : Int) = (if s.2 9 (s.1 16) = 0 then pO so else pO so - 1) → CX (pyY ++ kys) (1103 :: snR) c c4 → CX pyY [1103] c1 c4 → RMk 2 16 c c4 → NWc (nxt c) c4 → wk iv L h0 (d + 2) 13 207 [lr 64, ln, ln, ln, ln, ln, li (pO so), lr (A3 (s.1 8)), li i] [] c4 (qi F) := by
    intro m i A3 c4 s4 P4 Q4 hO4 hE4 hU h48 h49 h49n h4k hP4 hQ4 hQn him hi0 hm hx4 hx14 hr4 hW4
    have hm4 : s4.1 8 + m ≤ 3000 := by
      rw [h48, hm]
      by_cases w : s.2 9 (s.1 16) = 0
      · rw [if_pos w] at hB3 ⊢; omega
      · rw [if_neg w] at hB3 ⊢; omega
    have hm3 : (m : Int) ≤ 3 := by omega
    refine put_loop_c hl3 m i A3 c4 s4 P4 Q4 hO4 him hi0 (by rw [h49n]) ⟨hB.1, by omega⟩ hm4 hW4 (fun A' e hOe hEe hxe hre' hWe => ?_)
    rw [hU] at hAft
    have hle := hlsU_e (s.1 8) m i s4
    refine changed_ok hOe hAft (KIs_e hK ?_ ⟨?_, ?_, ?_, ?_⟩) (fun x hx => ?_) (fun x j hx i0 i1 => ?_) (by omega) (fun f g1 g2 g3 g4 => ?_)
    · rw [hle.1.1 2 (by decide)]; exact h4k.1
    · rw [hle.1.2 4 (by decide)]; exact h4k.2.1
    · rw [hle.1.2 5 (by decide)]; exact h4k.2.2.1
    · rw [hle.1.2 6 (by decide)]; exact h4k.2.2.2.1
    · rw [hle.1.2 7 (by decide)]; exact h4k.2.2.2.2
    · rcases put_mem hS hT.2.2 hg hx with q | q | q
      · exact Or.inl (hP4 x (Or.inl q))
      · exact Or.inl (hP4 x (Or.inr q))
      · right; rw [h48, hm]; omega
    · have i1 : j < pO ((hlsU (s.1 8) m i s4).2 9 x) := i1
      rw [hlsU_9] at i1
      rcases put_mem hS hT.2.2 hg hx with q | q | q
      · have := hS.m _ q
        rw [if_neg (by omega), h49 x this.2] at i1
        exact Or.inl (hQ4 x j q i0 i1)
      · subst q
        rw [if_neg (by omega), h49n] at i1
        by_cases w : j < i
        · exact Or.inl (hQn j i0 w)
        · exact Or.inr ⟨rfl, by omega, by omega⟩
      · exfalso
        rw [if_pos (by rw [h48, hm]; omega)] at i1
        have : pO 0 = 0 := by decide
        omega
    · have hEA : EXT A A' (s.1 8) := hE4.tr hEe (by omega)
      obtain ⟨n1, n4⟩ := ans_b g1 (y := s.1 8) ⟨hB.1, by
        show s.1 8 < (hlsU (s.1 8) m i s4).1 8
        rw [hle.2.1]
        omega⟩
      refine ⟨n1, ?_⟩
      rw [n4]
      refine H2 f ⟨A', by rw [hU]; exact g1, hEA, ?_, ?_, ?_, g4, hWe.x hl3 g2 g3 (by decide)⟩
      · refine (hx4.up ?_ ?_).tr ((hxe.up ?_ ?_).tr (cxa_t g2))
        · decide
        · intro y hy
          rcases List.mem_cons.mp hy with rfl | hy
          · simp [acR]
          · exact snR_ac y hy
        · decide
        · intro y hy
          simp at hy; subst hy; simp [acR]
      · exact ((hr4.tr hre').tr g3).up (by omega) (by omega)
      · exact hK1.x hX1 hEA hB.1 (kp_push hKP hT) ((hx14.up (ys' := pyY ++ tyY) (rs' := [1103] ++ srs) (by decide) (by decide)).tr ((hxe.up (by decide) (by decide)).tr (g2.up (by decide) (by decide)))) (by decide) (by decide)
  have hxc2 : CX (pyY ++ kys) (1103 :: snR) c c3 := (hx1.up (by decide) (fun y hy => List.mem_cons_of_mem _ hy)).tr ((hb2.1.up (by decide) (fun _ q => by cases q)).tr (hx3.up (by decide) (fun y hy => by simp at hy; subst hy; simp)))
  have hx13 : CX pyY [1103] c1 c3 := (hb2.1.up (by decide) (fun _ q => by cases q)).tr (hx3.up (by decide) (by decide))
  have hW3 : NWc (nxt c) c3 := (((NWc.rf).x hl3 hx1 hr1 (by decide)).b hl3 hb2).x hl3 hx3 hr3 (by decide)
  have hr3' : RMk 2 16 c c3 := by
    have r2 : RMk 2 16 c1 c2 := ⟨by have := hb2.2.1.1; omega, hb2.2.1.2⟩
    exact ((hr1.tr r2).tr hr3).up (by decide) (by decide)
  have kk : ∀ {w : SM}, (w.1 2 = (bornU s so v k).1 2 ∧ w.2 4 = (bornU s so v k).2 4 ∧ w.2 5 = (bornU s so v k).2 5 ∧ w.2 6 = (bornU s so v k).2 6 ∧ w.2 7 = (bornU s so v k).2 7) → (w.1 2 = s.1 2 ∧ w.2 4 = s.2 4 ∧ w.2 5 = s.2 5 ∧ w.2 6 = s.2 6 ∧ w.2 7 = s.2 7) := fun h => ⟨h.1.trans rfl, h.2.1.trans (he.2 4 (by decide)), h.2.2.1.trans (he.2 5 (by decide)), h.2.2.2.1.trans (he.2 6 (by decide)), h.2.2.2.2.trans (he.2 7 (by decide))⟩
  refine ⟨fun hs => ?_, fun hs => ?_⟩
  · have hk5 := (hO3.1.2.1.2 (s.1 8) hB.1 (by rw [r8]; omega)).1.1
    refine ⟨hk5, hang_c hO3 ⟨hB.1, by rw [r8]; omega⟩ ⟨hcb.1, by rw [r8]; omega⟩ ⟨by omega, by rw [r9]; have := hB3.2.2 hs; omega⟩ (fun c4 hO4 hx4 hr4 => ?_)⟩
    have hpe := partU_e (s := replU (bornU s so v k) (s.1 16) (s.1 8)) (b := s.1 8) (i := 0) (c := s.1 16)
    refine fin (pO so - 1).toNat 1 _ c4 _ _ _ hO4 hE2 ?_ ?_ (fun x hx => ?_) ?_ (kk ⟨?_, ?_, ?_, ?_, ?_⟩) (fun x hx => ?_) (fun x j hx j0 j1 => Or.inl (Or.inl ⟨hx, j0, j1⟩)) (fun j j0 j1 => Or.inr ⟨rfl, by omega⟩) (by have := hB3.2.2 hs; omega) (by omega) (by rw [if_neg hs]; have := hB3.2.2 hs; omega) (hxc2.tr (hx4.up (by decide) (fun y hy => by simp at hy; subst hy; simp))) (hx13.tr (hx4.up (by decide) (by decide))) ((hr3'.tr hr4).up (by decide) (by decide)) (hW3.x hl3 hx4 hr4 (by decide))
    · unfold putU; rw [if_neg hs]
    · rw [hpe.1 8 (by simp)]; exact r8
    · rw [hpe.2 9 (by decide)]; exact r9o x hx
    · rw [hpe.2 9 (by decide)]; exact r9
    · rw [hpe.1 2 (by simp), hre.1 2 (by decide)]
    · rw [hpe.2 4 (by decide), hre.2 4 (by decide)]
    · rw [hpe.2 5 (by decide), hre.2 5 (by decide)]
    · rw [hpe.2 6 (by decide), hre.2 6 (by decide)]
    · rw [hpe.2 7 (by decide), hre.2 7 (by decide)]
    · rcases hx with q | q
      · exact Or.inl (Or.inl q)
      · exact Or.inl (Or.inr q)
  · refine fin (pO so).toNat 0 _ c3 _ _ _ hO3 hE2 ?_ r8 r9o r9 (kk ⟨?_, ?_, ?_, ?_, ?_⟩) (fun x hx => hx) (fun x j hx j0 j1 => Or.inl ⟨hx, j0, j1⟩) (fun j j0 j1 => by omega) (by omega) (by omega) (by rw [if_pos hs]; omega) hxc2 hx13 hr3' hW3
    · unfold putU; rw [if_pos hs]
    · rw [hre.1 2 (by decide)]
    · rw [hre.2 4 (by decide)]
    · rw [hre.2 5 (by decide)]
    · rw [hre.2 6 (by decide)]
    · rw [hre.2 7 (by decide)]
end
