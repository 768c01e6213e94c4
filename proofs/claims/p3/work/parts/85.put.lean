/-! put, unwrap. -/
def pgd (s : SM) (so v k : Int) : Prop := (0 ≤ so ∧ so ≤ 15) ∧ (so = 2 → 0 ≤ v ∧ v ≤ 1) ∧ ((so = 3 ∨ so = 8 ∨ so = 10) → 0 ≤ v ∧ v ≤ 25) ∧ ((so = 8 ∨ so = 15) → 0 ≤ k ∧ k < s.1 2)
def pfr (s : SM) (so : Int) : Int := if s.2 9 (s.1 16) = 0 then 1 + pO so else pO so
noncomputable def putA (s : SM) (t : Term) (so v k : Int) : Int := if (0 ≤ so ∧ so ≤ 15) ∧ ¬ (so = 2 ∧ ¬ (0 ≤ v ∧ v ≤ 1)) ∧ ¬ ((so = 3 ∨ so = 8 ∨ so = 10) ∧ ¬ (0 ≤ v ∧ v ≤ 25)) ∧ ¬ ((so = 8 ∨ so = 15) ∧ ¬ (0 ≤ k ∧ k < s.1 2)) then (if so = 0 ∨ (pO so = 0 ∧ s.2 9 (s.1 16) ≠ 0) then -4 else if 60 < ((fl t).length : Int) + pO so ∨ 3000 < s.1 8 + pfr s so then -2 else s.1 8) else -1
def putOk (s : SM) (t : Term) (so v k : Int) : Prop := pgd s so v k ∧ ¬ (so = 0 ∨ (pO so = 0 ∧ s.2 9 (s.1 16) ≠ 0)) ∧ ((fl t).length : Int) + pO so ≤ 60 ∧ s.1 8 + pfr s so ≤ 3000
def putU (s : SM) (so v k : Int) : SM := us (if s.2 9 (s.1 16) = 0 then hlsU (s.1 8) (pO so).toNat 0 (replU (bornU s so v k) (s.1 16) (s.1 8)) else hlsU (s.1 8) (pO so - 1).toNat 1 (partU (replU (bornU s so v k) (s.1 16) (s.1 8)) (s.1 8) 0 (s.1 16))) 16 (s.1 8)
noncomputable def putT (s : SM) (t : Term) (so : Int) : Term := rpT (s.1 16) (if s.2 9 (s.1 16) = 0 then adds (pO so).toNat ((s.1 8).toNat + 1) (.index (s.1 8).toNat) else adds (pO so - 1).toNat ((s.1 8).toNat + 1) (.add (.index (s.1 8).toNat) (sq (s.1 16) t))) t
theorem putA_bad {s : SM} {t : Term} {so v k : Int} (h : ¬ pgd s so v k) : putA s t so v k = -1 := by
  unfold putA
  unfold pgd at h
  rw [if_neg (by omega)]
theorem putA_st {s : SM} {t : Term} {so v k : Int} (h : pgd s so v k) (h1 : so = 0 ∨ (pO so = 0 ∧ s.2 9 (s.1 16) ≠ 0)) : putA s t so v k = -4 := by
  unfold putA
  unfold pgd at h
  rw [if_pos (by omega), if_pos h1]
theorem putA_fu {s : SM} {t : Term} {so v k : Int} (h : pgd s so v k) (h1 : ¬ (so = 0 ∨ (pO so = 0 ∧ s.2 9 (s.1 16) ≠ 0))) (h2 : 60 < ((fl t).length : Int) + pO so ∨ 3000 < s.1 8 + pfr s so) : putA s t so v k = -2 := by
  unfold putA
  unfold pgd at h
  rw [if_pos (by omega), if_neg h1, if_pos h2]
theorem putA_ok {s : SM} {t : Term} {so v k : Int} (h : putOk s t so v k) : putA s t so v k = s.1 8 := by
  obtain ⟨h1, h2, h3, h4⟩ := h
  unfold putA
  unfold pgd at h1
  rw [if_pos (by omega), if_neg h2, if_neg (by omega)]
section
variable {iv : List (Int × Int)} {L : Nat} {h0 : MH} {s : SM} {t : Term} {d : Nat}
theorem put_loop {b c q n : Int} {F : Int → SM → Prop} (hb : 0 ≤ b ∧ b < 3000) (hn : n ≤ 3) : ∀ (m : Nat) (i : Int) (x : SM), 0 ≤ i → i + m = n → (i ≠ 0 ∨ q ≠ 0) → 0 ≤ x.1 8 → x.1 8 + m ≤ 3000 → cm iv L h0 (d + 1) 100 [vr 307, vi 0] (us (hlsU b m i x) 16 b) (qv fun s1 => F b s1) → wm iv L h0 (d + 2) 107 212 [lr 307, ln, ln, ln, ln, li q, li n, ln, li c, li b, li i] [] x (qi F) := by
  intro m
  induction m with
  | zero => intro i x i0 hi hq h8 h8' H; exact B107_212 ⟨fun _ => H, fun q => by omega⟩
  | succ m ih =>
    intro i x i0 hi hq h8 h8' H
    have go : cm iv L h0 (d + 1) 74 [vr 307, vi 0, vi (-9), vi (-9)] x (qi fun r s2 => cm iv L h0 (d + 1) 76 [vr 307, vi b, vi i, vi r] s2 (qv fun s4 => (-2147483648 ≤ i + 1 ∧ i + 1 ≤ 2147483647) ∧ wm iv L h0 (d + 2) 107 212 [lr 307, ln, ln, ln, ln, li q, li n, ln, li c, li b, li (i + 1)] [] s4 (qi F))) :=
      born_ok (by omega) (setPart_ok (by omega) (by omega) (by omega) ⟨by omega, ih (i + 1) _ (by omega) (by omega) (Or.inl (by omega)) (by show 0 ≤ x.1 8 + 1; omega) (by show x.1 8 + 1 + (m : Int) ≤ 3000; omega) H⟩)
    exact B107_212 ⟨fun q => by omega, fun _ => ⟨fun _ => go, fun e => ⟨fun _ => go, fun q => by omega⟩⟩⟩
theorem hlsU_e (b : Int) : ∀ (m : Nat) (i : Int) (s : SM), eqx [8] [9, 10, 11, 12, 13, 14] s (hlsU b m i s) ∧ (hlsU b m i s).1 8 = s.1 8 + m ∧ ∀ y, y < s.1 8 → (hlsU b m i s).2 9 y = s.2 9 y := by
  intro m
  induction m with
  | zero => intro i s; exact ⟨eqx.rf, by show s.1 8 = s.1 8 + ((0 : Nat) : Int); omega, fun _ _ => rfl⟩
  | succ m ih =>
    intro i s
    obtain ⟨a1, a2, a3⟩ := ih (i + 1) (hlU b i s)
    refine ⟨hlU_e.tr a1, ?_, fun y hy => ?_⟩
    · show (hlsU b m (i + 1) (hlU b i s)).1 8 = _
      rw [a2, hlU_8]; omega
    · show (hlsU b m (i + 1) (hlU b i s)).2 9 y = _
      rw [a3 y (by rw [hlU_8]; omega)]
      show (partU (bornU s 0 (-9) (-9)) b i (s.1 8)).2 9 y = _
      rw [partU_e.2 9 (by decide)]
      exact (bornU_o y hy).1.1
theorem up_in (h : SHT s t) {c : Int} (hc : c ∈ fl t) : s.2 12 c = -9 ∨ (0 ≤ s.2 12 c ∧ s.2 12 c < 3004) ∧ 0 ≤ s.2 13 c ∧ s.2 13 c < 3 := by
  by_cases e : c = hd t
  · exact Or.inl (by rw [e]; exact h.2.2.2.2.2.2.1)
  · obtain ⟨u1, u2, u3⟩ := (AT_mem t h.1 _ hc).2.2.2 e
    have := h.lt u1
    have := pO_in (s.2 9 (s.2 12 c))
    exact Or.inr ⟨by omega, by omega⟩
theorem put_ok {so v k : Int} {F : Int → SM → Prop} {K : List Snap} (h : SHT s t) (hN : NB s) (hKI : KIs s) (hc : s.1 16 ∈ fl t) (hK : KL s K) (hD : 100 ≤ d) (H1 : ∀ w, ¬ putOk s t so v k → SX [] [] s w → F (putA s t so v k) w) (H2 : putOk s t so v k → ∀ w, DONE s t K 0 (putU s so v k) w → F (putA s t so v k) w) : cm iv L h0 d 107 [vr 307, vi so, vi v, vi k] s (qi F) := by
  obtain ⟨d, rfl⟩ : ∃ k, d = k + 2 := ⟨d - 2, by omega⟩
  have hlt := h.lt hc
  have h8 := h.2.2.2.2.1
  have hl := h.2.2.2.1
  have k3 := hKI.1
  have hup := up_in h hc
  have hpo := pO_in so
  have G0 : ¬ pgd s so v k → wm iv L h0 (d + 2) 107 76 [lr 307, li so, li v, li k] [vi 0] s (qi F) := fun g => B107_76 ⟨fun q => absurd rfl q, fun _ => by
    have := H1 s (fun q => g q.1) SX.rf
    rw [putA_bad g] at this
    exact this⟩
  have G1 : pgd s so v k → wm iv L h0 (d + 2) 107 76 [lr 307, li so, li v, li k] [vi 1] s (qi F) := fun g => by
    have st : (so = 0 ∨ (pO so = 0 ∧ s.2 9 (s.1 16) ≠ 0)) → F (-4) s := fun q => by
      have := H1 s (fun p => p.2.1 q) SX.rf
      rw [putA_st g q] at this
      exact this
    have fu : ∀ w, SX [] [] s w → ¬ (so = 0 ∨ (pO so = 0 ∧ s.2 9 (s.1 16) ≠ 0)) → (60 < ((fl t).length : Int) + pO so ∨ 3000 < s.1 8 + pfr s so) → F (-2) w := fun w hw q1 q2 => by
      have := H1 w (fun p => by have := p.2.2; omega) hw
      rw [putA_fu g q1 q2] at this
      exact this
    have gso := g.1
    -- the act itself
    have go : ∀ (s3 : SM) (q : Int), eqx [18] [17] s s3 → putOk s t so v k → (q = if s.2 9 (s.1 16) = 0 then 1 else 0) → cm iv L h0 (d + 1) 99 [vr 307] s3 (qv fun s8 => cm iv L h0 (d + 1) 74 [vr 307, vi so, vi v, vi k] s8 (qi fun r10 s9 => cm iv L h0 (d + 1) 77 [vr 307, vi (s8.1 16), vi r10] s9 (qv fun s11 => wm iv L h0 (d + 2) 107 212 [lr 307, ln, ln, ln, ln, li q, li (pO so), ln, li (s8.1 16), li r10, li 0] [] s11 (qi F)))) := fun s3 q e3 gok hq => by
      have hx3 := SX_lay e3
      refine beginAct_ok (h.x hx3 (by decide) (by decide)) (by omega) (fun w w1 w2 w3 => ?_)
      have w1 : eqx [18, 30, 31] [17, 32, 33, 34] s w := (e3.up (fun y q => by simp at q ⊢; omega) (fun y q => by simp at q ⊢; omega)).tr w1
      have w3 : AH w (t, s) := by
        obtain ⟨a1, a2, a3⟩ := w3
        refine ⟨a1, a2.trans (e3.1 16 (by decide)), fun k x hk => ?_⟩
        have := a3 k x hk
        rw [show ((t, s3) : Snap).2.2 10 x = s.2 10 x from by show s3.2 10 x = _; rw [e3.2 10 (by decide)], show ((t, s3) : Snap).2.2 14 = s.2 14 from e3.2 14 (by decide)] at this
        exact this
      have w8 : w.1 8 = s.1 8 := w1.1 8 (by decide)
      have hx := SX.eq (ey := []) (ef := []) w1 (by decide) (by decide)
      have w16 : w.1 16 = s.1 16 := w1.1 16 (by decide)
      have gf := gok.2.2.2
      have b8 : s.1 8 < 3000 := by have g2 := gok.2.1; unfold pfr at gf; split at gf <;> omega
      rw [w16]
      refine born_ok (by omega) ?_
      rw [w8]
      have g12 : (bornU w so v k).2 12 = s.2 12 := (bornU_e.2 12 (by decide)).trans (w1.2 12 (by decide))
      have g13 : (bornU w so v k).2 13 = s.2 13 := (bornU_e.2 13 (by decide)).trans (w1.2 13 (by decide))
      refine replace_ok (by omega) (by rw [g12, g13]; exact hup) (by omega) ?_
      have x8 : (replU (bornU w so v k) (s.1 16) (s.1 8)).1 8 = s.1 8 + 1 := by rw [replU_e.1 8 (by decide), bornU_8, w8]
      have xe : eqx [8, 15, 16, 41] [9, 10, 11, 12, 13, 14, 36, 42] w (replU (bornU w so v k) (s.1 16) (s.1 8)) := (bornU_e.up (fun y q => by simp at q ⊢; omega) (fun y q => by simp at q ⊢; omega)).tr (replU_e.up (fun y q => by simp at q ⊢; omega) (fun y q => by simp at q ⊢; omega))
      have x9 : ∀ y, 0 ≤ y → y < s.1 8 → (replU (bornU w so v k) (s.1 16) (s.1 8)).2 9 y = s.2 9 y := fun y y0 y1 => by
        rw [replU_e.2 9 (by decide), (bornU_o y (by rw [w8]; exact y1)).1.1, w1.2 9 (by decide)]
      have xs : SX [] [] (replU (bornU s so v k) (s.1 16) (s.1 8)) (replU (bornU w so v k) (s.1 16) (s.1 8)) := replU_x (bornU_x hx (by decide)) (by omega) (by decide)
      have H2' := H2 gok
      rw [putA_ok gok] at H2'
      by_cases ho : s.2 9 (s.1 16) = 0
      · rw [if_pos ho] at hq
        unfold pfr at gf
        rw [if_pos ho] at gf
        obtain ⟨e1, e2, e4⟩ := hlsU_e (s.1 8) (pO so).toNat 0 (replU (bornU w so v k) (s.1 16) (s.1 8))
        refine put_loop (by omega) hpo.2 (pO so).toNat 0 _ (by omega) (by omega) (Or.inr (by omega)) (by omega) (by omega) ?_
        refine act_end (s' := putU s so v k) h hN hc hK w1 w3 (eqx_us (xe.tr (e1.up (fun y q => by simp at q ⊢; omega) (fun y q => by simp at q ⊢; omega))) (by decide)) ?_ ?_ ?_ (fun u u1 u2 => H2' u ⟨u1, u2⟩)
        · show s.1 8 ≤ (hlsU _ _ _ _).1 8
          omega
        · intro y y0 y1
          show (hlsU _ _ _ _).2 9 y = _
          rw [e4 y (by omega)]
          exact x9 y y0 y1
        · unfold putU
          rw [if_pos ho]
          exact (hlsU_x (by decide) _ _ _ _ xs).us
      · rw [if_neg ho] at hq
        unfold pfr at gf
        rw [if_neg ho] at gf
        have hn1 : 1 ≤ pO so := by have := gok.2.1; omega
        refine B107_212 ⟨fun q => by omega, fun _ => ⟨fun q => absurd rfl q, fun _ => ⟨fun q2 => by omega, fun _ => setPart_ok (by omega) (by decide) (by omega) ⟨by omega, ?_⟩⟩⟩⟩
        obtain ⟨e1, e2, e4⟩ := hlsU_e (s.1 8) (pO so - 1).toNat 1 (partU (replU (bornU w so v k) (s.1 16) (s.1 8)) (s.1 8) 0 (s.1 16))
        have y8 : (partU (replU (bornU w so v k) (s.1 16) (s.1 8)) (s.1 8) 0 (s.1 16)).1 8 = s.1 8 + 1 := x8
        refine put_loop (by omega) hpo.2 (pO so - 1).toNat 1 _ (by omega) (by omega) (Or.inl (by omega)) (by omega) (by omega) ?_
        refine act_end (s' := putU s so v k) h hN hc hK w1 w3 (eqx_us ((xe.tr (partU_e.up (fun _ q => by cases q) (fun y q => by simp at q ⊢; omega))).tr (e1.up (fun y q => by simp at q ⊢; omega) (fun y q => by simp at q ⊢; omega))) (by decide)) ?_ ?_ ?_ (fun u u1 u2 => H2' u ⟨u1, u2⟩)
        · show s.1 8 ≤ (hlsU _ _ _ _).1 8
          omega
        · intro y y0 y1
          show (hlsU _ _ _ _).2 9 y = _
          rw [e4 y (by omega), partU_e.2 9 (by decide)]
          exact x9 y y0 y1
        · unfold putU
          rw [if_neg ho]
          exact (hlsU_x (by decide) _ _ _ _ (partU_x xs)).us
    have hole : s.2 9 (s.1 16) = 0 → so ≠ 0 → cm iv L h0 (d + 1) 82 [vr 307] s (qi fun r15 s14 => (-2147483648 ≤ r15 + (1 + (pO so)) ∧ r15 + (1 + (pO so)) ≤ 2147483647) ∧ (-2147483648 ≤ (r15 + (1 + (pO so))) - 1 ∧ (r15 + (1 + (pO so))) - 1 ≤ 2147483647) ∧ ((60 < (r15 + (1 + (pO so))) - 1 → F (-2) s14) ∧ ((r15 + (1 + (pO so))) - 1 ≤ 60 → (-2147483648 ≤ (s14.1 8) + (1 + (pO so)) ∧ (s14.1 8) + (1 + (pO so)) ≤ 2147483647) ∧ (((s14.1 8) + (1 + (pO so)) ≤ 3000 → cm iv L h0 (d + 1) 99 [vr 307] s14 (qv fun s19 => cm iv L h0 (d + 1) 74 [vr 307, vi so, vi v, vi k] s19 (qi fun r21 s20 => cm iv L h0 (d + 1) 77 [vr 307, vi (s19.1 16), vi r21] s20 (qv fun s22 => wm iv L h0 (d + 2) 107 212 [lr 307, ln, ln, ln, ln, li 1, li (pO so), ln, li (s19.1 16), li r21, li 0] [] s22 (qi F))))) ∧ (3000 < (s14.1 8) + (1 + (pO so)) → F (-2) s14))))) := fun ho h0 => by
      refine nodes_ok h (by omega) (fun w hw => ⟨by omega, by omega, fun q => fu w (SX_lay hw) (by omega) (Or.inl (by omega)), fun q => ?_⟩)
      rw [hw.1 8 (by decide)]
      have ep : pfr s so = 1 + pO so := if_pos ho
      exact ⟨by omega, fun q2 => go w 1 hw ⟨g, by omega, by omega, by omega⟩ (by rw [if_pos ho]), fun q2 => fu w (SX_lay hw) (by omega) (Or.inr (by omega))⟩
    refine B107_76 ⟨fun _ => ⟨by omega, fun ho => ⟨by omega, fun e => st (Or.inl e), fun e => ⟨fun en => ?_, fun en => st (Or.inr ⟨en, ho⟩)⟩⟩, fun ho => ⟨by omega, fun e => st (Or.inl e), fun e => ⟨fun en => ⟨by omega, hole ho e⟩, fun en => ⟨by omega, hole ho e⟩⟩⟩⟩, fun q => by omega⟩
    refine nodes_ok h (by omega) (fun w hw => ⟨by omega, by omega, fun q => fu w (SX_lay hw) (by omega) (Or.inl (by omega)), fun q => ?_⟩)
    rw [hw.1 8 (by decide)]
    have ep : pfr s so = pO so := if_neg ho
    exact ⟨by omega, fun q2 => go w 0 hw ⟨g, by omega, by omega, by omega⟩ (by rw [if_neg ho]), fun q2 => fu w (SX_lay hw) (by omega) (Or.inr (by omega))⟩
  refine B107 ?_
  repeat' first
    | exact G1 (by unfold pgd; omega)
    | exact G0 (by unfold pgd; omega)
    | refine ⟨fun _ => ?_, fun _ => ?_⟩
    | refine ⟨k3, ?_⟩
    | (exfalso; omega)
/-- unwrap() -/
noncomputable def uwT (s : SM) (t : Term) (i : Int) : Term := rpT (s.1 16) (prt i (sq (s.1 16) t)) t
def uwU (s : SM) (i : Int) : SM := us (replU s (s.1 16) (s.2 14 (3 * s.1 16 + i))) 16 (s.2 14 (3 * s.1 16 + i))
def uwA (s : SM) (i : Int) : Int := if pO (s.2 9 (s.1 16)) = 0 then -4 else if 0 ≤ i ∧ i < pO (s.2 9 (s.1 16)) then s.2 14 (3 * s.1 16 + i) else -3
def uwOk (s : SM) (i : Int) : Prop := 0 ≤ i ∧ i < pO (s.2 9 (s.1 16))
def uwN (s : SM) : SM := if pO (s.2 9 (s.1 16)) = 0 then s else mtU s 2
theorem unwrap_ok {n i : Int} {F : Int → SM → Prop} {K : List Snap} (h : SHT s t) (hN : NB s) (hcm : CM n s) (hn : n ≤ 600) (hc : s.1 16 ∈ fl t) (hK : KL s K) (hD : 100 ≤ d) (H1 : ¬ uwOk s i → F (uwA s i) (uwN s)) (H2 : uwOk s i → ∀ w, DONE s t K 0 (uwU s i) w → F (uwA s i) w) : cm iv L h0 d 109 [vr 307, vi i] s (qi F) := by
  obtain ⟨d, rfl⟩ : ∃ k, d = k + 2 := ⟨d - 2, by omega⟩
  have hlt := h.lt hc
  have mc := AT_mem t h.1 _ hc
  have hpo := pO_in (s.2 9 (s.1 16))
  have hup := up_in h hc
  unfold uwA uwN uwOk at H1
  unfold uwA uwOk at H2
  refine B109 ⟨by omega, mc.2.1, fun e => ⟨by omega, fun hi => ?_, fun hi => meets_ok hcm hn (by decide) ?_⟩, fun e => ?_⟩
  · have hi2 : i < pO (s.2 9 (s.1 16)) := by omega
    refine beginAct_ok h (by omega) (fun w w1 w2 w3 => ?_)
    have hx := SX.eq (ey := []) (ef := []) w1 (by decide) (by decide)
    have w16 : w.1 16 = s.1 16 := w1.1 16 (by decide)
    have w14 : w.2 14 = s.2 14 := w1.2 14 (by decide)
    rw [w16, w14]
    have hp : s.2 14 (3 * s.1 16 + i) ∈ fl t := (mc.2.2.1 i hi.1 hi2 (fun q => by have := h.2.1; unfold full at this; rw [this, ← q]; exact hi2)).1
    have hpl := h.lt hp
    refine ⟨by omega, by omega, by omega, replace_ok (by omega) (by rw [w1.2 12 (by decide), w1.2 13 (by decide)]; exact hup) (by omega) ?_⟩
    refine act_end (s' := uwU s i) h hN hc hK w1 w3 (eqx_us (replU_e.up (fun y q => by simp at q ⊢; omega) (fun y q => by simp at q ⊢; omega)) (by decide)) ?_ ?_ ?_ (fun u u1 u2 => ?_)
    · show s.1 8 ≤ (replU w _ _).1 8
      rw [replU_e.1 8 (by decide), w1.1 8 (by decide)]; exact Int.le_refl _
    · intro y y0 y1
      show (replU w _ _).2 9 y = _
      rw [replU_e.2 9 (by decide), w1.2 9 (by decide)]
    · exact (replU_x hx (by omega) (by decide)).us
    · have := H2 ⟨hi.1, hi2⟩ u ⟨u1, u2⟩
      rw [if_neg e, if_pos ⟨hi.1, hi2⟩] at this
      exact this
  · have := H1 (by omega)
    simp only [if_neg e, if_neg (show ¬ (0 ≤ i ∧ i < pO (s.2 9 (s.1 16))) by omega)] at this
    exact this
  · have := H1 (by omega)
    simp only [if_pos e] at this
    exact this
end
