/-! fill(). -/
noncomputable def filT (s : SM) (t : Term) (e : Snap) : Term := rpT (s.1 16) (rlb e.1 (s.1 8).toNat) t
def filN (s : SM) (Sh : Int → Option Snap) (p : Int) : Nat := match Sh p with
  | none => 0
  | some e => (fl e.1).length
/-- why not: 1 a bad place, 2 no hole, 3 nothing there, 4 full; 0: it can be done -/
def filF (s : SM) (t : Term) (Sh : Int → Option Snap) (p : Int) : Nat := if 0 ≤ p ∧ p < 6 then (if s.2 9 (s.1 16) = 0 then (if filN s Sh p = 0 then 3 else if 60 < (fl t).length - 1 + filN s Sh p ∨ 3000 < s.1 8 + filN s Sh p then 4 else 0) else 2) else 1
/-- a done fill -/
def FDONE (s : SM) (t : Term) (K : List Snap) (e : Snap) (v : SM) : Prop := SX [8, 15, 16, 24, 35] [9, 10, 11, 12, 13, 14, 25, 26, 27, 28, 29, 42] s v ∧ (v.1 8 = s.1 8 + (fl e.1).length ∧ v.1 16 = s.1 8 ∧ v.1 35 = chg (s.1 35) 1) ∧ (∀ y, y < s.1 8 → v.2 9 y = s.2 9 y ∧ v.2 10 y = s.2 10 y ∧ v.2 11 y = s.2 11 y) ∧ (∀ (k : Nat) (x : Int), (fl e.1)[k]? = some x → v.2 9 (s.1 8 + k) = e.2.2 9 x ∧ v.2 10 (s.1 8 + k) = e.2.2 10 x ∧ v.2 11 (s.1 8 + k) = e.2.2 11 x) ∧ (∀ y, v.2 42 y = if y = s.1 16 then s.1 8 + 1 else s.2 42 y) ∧ KL v (push K (t, s)) ∧ AFT v (filT s t e) ∧ (∀ z, z < s.1 8 → v.2 12 z = s.2 12 z ∧ v.2 13 z = s.2 13 z) ∧ v.2 12 (s.1 8) = s.2 12 (s.1 16) ∧ v.2 13 (s.1 8) = s.2 13 (s.1 16)
section
variable {iv : List (Int × Int)} {L : Nat} {h0 : MH} {s : SM} {t : Term} {d : Nat}
theorem fill_ok {n p : Int} {F : Int → SM → Prop} {K : List Snap} {Sh : Int → Option Snap} (h : AFT s t) (hcm : CM n s) (hn : n ≤ 600) (hS : ShL s Sh) (hK : KL s K) (hD : 200 ≤ d) (H1 : filF s t Sh p = 1 → F (-1) s) (H2 : filF s t Sh p = 2 → F (-4) s) (H3 : filF s t Sh p = 3 → F (-3) (mtU s 1)) (H4 : ∀ w, filF s t Sh p = 4 → SX [] [] s w → F (-2) w) (H0 : ∀ e v, filF s t Sh p = 0 → Sh p = some e → FDONE s t K e v → F (s.1 8) v) : cm iv L h0 d 115 [vr 307, vi p] s (qi F) := by
  obtain ⟨d, rfl⟩ : ∃ k, d = k + 2 := ⟨d - 2, by omega⟩
  obtain ⟨h, hN, hc⟩ := h
  have hct := h.lt hc
  have h8 := h.2.2.2.2.1
  have hll := h.2.2.2.1
  have hlp := List.length_pos_of_mem hc
  have hNx := hN
  refine B115 ⟨fun hp => ⟨by omega, fun ho => ⟨by omega, fun e37 => ?_, fun e37 => meets_ok hcm hn (by decide) (H3 ?_)⟩, fun ho => H2 (by unfold filF; rw [if_pos (by omega), if_neg ho])⟩, fun hp => H1 (by unfold filF; rw [if_neg (by omega)])⟩
  · -- something is there
    obtain ⟨s1, s2⟩ := hS p hp.1 (by omega)
    cases hSp : Sh p with
    | none => exact absurd (s1 hSp) e37
    | some e =>
      obtain ⟨b1, b2, b3⟩ := s2 e hSp
      obtain ⟨b4, b5, b6, b7⟩ := b2
      have fn : filN s Sh p = (fl e.1).length := by unfold filN; rw [hSp]
      have lp := List.length_pos_of_mem (hd_mem _ b4)
      have fl4 : (60 < (fl t).length - 1 + (fl e.1).length ∨ 3000 < s.1 8 + (fl e.1).length) → filF s t Sh p = 4 := fun q => by
        unfold filF
        rw [if_pos (by omega), if_pos ho, fn, if_neg (by omega), if_pos q]
      refine nodes_ok h (by omega) (fun w w1 => ?_)
      rw [w1.2 37 (by decide), w1.1 8 (by decide), b1]
      refine ⟨by omega, by omega, fun q => H4 w (fl4 (by omega)) (SX_lay w1), fun q => ⟨by omega, fun q2 => ?_, fun q2 => H4 w (fl4 (by omega)) (SX_lay w1)⟩⟩
      have f0 : filF s t Sh p = 0 := by
        unfold filF
        rw [if_pos (by omega), if_pos ho, fn, if_neg (by omega), if_neg (by omega)]
      have hTw := h.x (SX_lay w1) (by decide) (by decide)
      refine beginAct_ok hTw (by omega) (fun y y1 y2 y3 => ?_)
      have y1 : eqx [18, 30, 31] [17, 32, 33, 34] s y := (w1.up (fun y q => by simp at q ⊢; omega) (fun y q => by simp at q ⊢; omega)).tr y1
      have y3 : AH y (t, s) := by
        obtain ⟨c1, c2, c3⟩ := y3
        refine ⟨c1, c2.trans (w1.1 16 (by decide)), fun k z hk => ?_⟩
        have := c3 k z hk
        rw [show ((t, w) : Snap).2.2 10 z = s.2 10 z from by show w.2 10 z = _; rw [w1.2 10 (by decide)], show ((t, w) : Snap).2.2 14 = s.2 14 from w1.2 14 (by decide)] at this
        exact this
      have y8 : y.1 8 = s.1 8 := y1.1 8 (by decide)
      have y16 : y.1 16 = s.1 16 := y1.1 16 (by decide)
      have hdp := dpt_len _ b4
      refine bornFrom_ok (z := e.2) (t := e.1) (D := d) (by omega) b4 b5 (fun k x hk => ?_) (by omega) (by show 0 ≤ y.1 8; omega) (by show y.1 8 + _ ≤ 3000; omega) (Int.le_refl 0) (by show (0 : Int) + _ ≤ 60; omega) (fun v hv => ?_)
      · obtain ⟨g1, g2⟩ := b3 k x hk
        show (y.2 38 (60 * p + (0 + (k : Int))) = _ ∧ y.2 39 (60 * p + (0 + (k : Int))) = _ ∧ y.2 40 (60 * p + (0 + (k : Int))) = _) ∧ _
        rw [y1.2 38 (by decide), y1.2 39 (by decide), y1.2 40 (by decide), Int.zero_add]
        exact ⟨g1, g2.2.2.2.2.1, g2.2.2.2.2.2⟩
      · obtain ⟨v1, v2, v3, v4, v5, v6⟩ := hv
        have v1 : v.1 8 = s.1 8 + (fl e.1).length := by rw [v1]; show y.1 8 + _ = _; rw [y8]
        have v3 : ATs v (rlb e.1 (s.1 8).toNat) := by have := v3; rw [show (us y 41 0).1 8 = s.1 8 from y8] at this; exact this
        have v4 : OLD (fun z => z < s.1 8) y v := fun z hz => v4 z (by show z < y.1 8; rw [y8]; exact hz)
        have v5' : eqx [8, 41] [9, 10, 11, 12, 13, 14] y v := (eqx_us (s := y) (t := y) eqx.rf (y := 41) (z := 0) (by decide)).tr (v5.up (fun y q => q) (fun y q => by simp at q ⊢; omega))
        have v6 : ∀ (k : Nat) (x : Int), (fl e.1)[k]? = some x → v.2 9 (s.1 8 + k) = e.2.2 9 x ∧ v.2 10 (s.1 8 + k) = e.2.2 10 x ∧ v.2 11 (s.1 8 + k) = e.2.2 11 x := fun k x hk => by
          have := v6 k x hk
          rw [show (us y 41 0).1 8 = s.1 8 from y8] at this
          exact this
        have o12 : ∀ z, z < s.1 8 → v.2 12 z = s.2 12 z ∧ v.2 13 z = s.2 13 z := fun z hz => by
          have := (v4 z hz).2.1
          rw [this.1, this.2, y1.2 12 (by decide), y1.2 13 (by decide)]
          exact ⟨rfl, rfl⟩
        have o9 : ∀ z, z < s.1 8 → v.2 9 z = s.2 9 z ∧ v.2 10 z = s.2 10 z ∧ v.2 11 z = s.2 11 z := fun z hz => by
          have := (v4 z hz).1
          rw [this.1, this.2.1, this.2.2, y1.2 9 (by decide), y1.2 10 (by decide), y1.2 11 (by decide)]
          exact ⟨rfl, rfl, rfl⟩
        have o14 : ∀ z i, 0 ≤ i → i < 3 → z < s.1 8 → v.2 14 (3 * z + i) = s.2 14 (3 * z + i) := fun z i i0 i3 hz => by
          rw [(v4 z hz).2.2 i i0 i3, y1.2 14 (by decide)]
        have u16 : (us y 41 0).1 8 = s.1 8 := y8
        rw [y16, u16]
        have hc12 := o12 _ hct.2.1
        have hup := up_in h hc
        refine replace_ok (by omega) (by rw [hc12.1, hc12.2]; exact hup) (by omega) ⟨by omega, by omega, ?_⟩
        obtain ⟨r1, r2, r3, r4, r5⟩ := replU_in (s1 := v) (b := s.1 8) h hc hc12.1 hc12.2
        have E9 : (replU v (s.1 16) (s.1 8)).2 9 = v.2 9 := replU_e.2 9 (by decide)
        have E10 : (replU v (s.1 16) (s.1 8)).2 10 = v.2 10 := replU_e.2 10 (by decide)
        have E11 : (replU v (s.1 16) (s.1 8)).2 11 = v.2 11 := replU_e.2 11 (by decide)
        have E8 : (replU v (s.1 16) (s.1 8)).1 8 = v.1 8 := replU_e.1 8 (by decide)
        have f9 : (us (ua (replU v (s.1 16) (s.1 8)) 42 (s.1 16) (s.1 8 + 1)) 16 (s.1 8)).2 9 = v.2 9 := by
          rw [us_2]; funext z; rw [ua_2, if_neg (by omega), E9]
        have f10 : (us (ua (replU v (s.1 16) (s.1 8)) 42 (s.1 16) (s.1 8 + 1)) 16 (s.1 8)).2 10 = v.2 10 := by
          rw [us_2]; funext z; rw [ua_2, if_neg (by omega), E10]
        have f11 : (us (ua (replU v (s.1 16) (s.1 8)) 42 (s.1 16) (s.1 8 + 1)) 16 (s.1 8)).2 11 = v.2 11 := by
          rw [us_2]; funext z; rw [ua_2, if_neg (by omega), E11]
        have fo : ∀ f, f ≠ 42 → (us (ua (replU v (s.1 16) (s.1 8)) 42 (s.1 16) (s.1 8 + 1)) 16 (s.1 8)).2 f = (replU v (s.1 16) (s.1 8)).2 f := fun f hf => by
          rw [us_2]; funext z; rw [ua_2, if_neg (fun q => hf q.1)]
        obtain ⟨l1, l2, l3⟩ := rlb_fl e.1 (s.1 8).toNat b4
        have l2 : hd (rlb e.1 (s.1 8).toNat) = s.1 8 := by rw [l2]; omega
        have hub : 3 * s.2 12 (s.1 16) + s.2 13 (s.1 16) < 3 * s.1 8 := by
          by_cases q : s.1 16 = hd t
          · have q1 := h.2.2.2.2.2.2.1
            have q2 := h.2.2.2.2.2.2.2
            rw [← q] at q1 q2
            omega
          · obtain ⟨u1, u2, u3⟩ := (AT_mem t h.1 _ hc).2.2.2 q
            have := h.lt u1
            have := pO_in (s.2 9 (s.2 12 (s.1 16)))
            omega
        have hl := len_rp h hc (rlb e.1 (s.1 8).toNat)
        have lfl : (fl (rlb e.1 (s.1 8).toNat)).length = (fl e.1).length := by rw [l1]; simp
        have hsp := sq_pos h hc
        rw [lfl] at hl
        have aft : AFT (us (ua (replU v (s.1 16) (s.1 8)) 42 (s.1 16) (s.1 8 + 1)) 16 (s.1 8)) (filT s t e) := by
          refine ⟨SHT_rp (w := us (ua (replU v (s.1 16) (s.1 8)) 42 (s.1 16) (s.1 8 + 1)) 16 (s.1 8)) h hc ⟨?_, ?_⟩ ?_ ?_ (rlb_nd b4) (fun z hz hzt => ?_) (fun z hz hzn => ?_) ?_ ?_ ?_ (by omega), NB_new hN ?_ (fun z z0 z1 => ?_) (fun z z0 z1 => ?_), ?_⟩
          · show s.1 8 ≤ (replU v (s.1 16) (s.1 8)).1 8; omega
          · show (replU v (s.1 16) (s.1 8)).1 8 ≤ 3000; omega
          · refine AT_cg (by show v.1 8 ≤ (replU v (s.1 16) (s.1 8)).1 8; omega) _ v3 (rlb_nd b4) (fun z hz => ⟨by rw [f9], fun i i0 i1 _ => ?_⟩) (fun z hz hne => ?_)
            · have hz2 := rlb_at b4 hz
              have := pO_in (v.2 9 z)
              rw [fo 14 (by decide)]
              exact r5 _ (by omega)
            · rw [l2] at hne
              rw [fo 12 (by decide), fo 13 (by decide)]
              exact r4 z hne
          · show na (rlb e.1 (s.1 8).toNat) = pO ((us (ua (replU v (s.1 16) (s.1 8)) 42 (s.1 16) (s.1 8 + 1)) 16 (s.1 8)).2 9 (hd (rlb e.1 (s.1 8).toNat)))
            rw [l3, l2, f9]
            obtain ⟨r, er⟩ := fl_hd _ b4
            have := (v6 0 (hd e.1) (by rw [er]; rfl)).1
            rw [show s.1 8 + ((0 : Nat) : Int) = s.1 8 by omega] at this
            rw [this]
            exact b5
          · have := rlb_at b4 hz
            have := h.lt hzt
            omega
          · have hzl := h.lt hz
            rw [f9, fo 12 (by decide), fo 13 (by decide), fo 14 (by decide)]
            have q1 := r4 z (by omega)
            have q2 := o12 z hzl.2.1
            exact ⟨(o9 z hzl.2.1).1, q1.1.trans q2.1, q1.2.trans q2.2, fun i i0 i3 hi => (r5 _ hi).trans (o14 z i i0 i3 hzl.2.1)⟩
          · rw [fo 12 (by decide), fo 13 (by decide), l2]; exact r1
          · intro q
            rw [fo 14 (by decide), l2]; exact r2 q
          · rw [l2]
            show (replU v (s.1 16) (s.1 8)).1 15 = _
            rw [r3, v5'.1 15 (by decide), y1.1 15 (by decide)]
          · exact (replU_e.1 2 (by decide)).trans ((v5'.1 2 (by decide)).trans (y1.1 2 (by decide)))
          · rw [f9, f10, f11]; exact o9 z z1
          · have z1 : z < (replU v (s.1 16) (s.1 8)).1 8 := z1
            have hk : (z - s.1 8).toNat < (fl e.1).length := by omega
            have g := v6 _ _ (List.getElem?_eq_getElem hk)
            rw [show s.1 8 + (((z - s.1 8).toNat : Nat) : Int) = z by omega] at g
            obtain ⟨-, g2⟩ := b3 _ _ (List.getElem?_eq_getElem hk)
            unfold nodOk
            rw [f9, f10, f11, g.1, g.2.1, g.2.2, show (us (ua (replU v (s.1 16) (s.1 8)) 42 (s.1 16) (s.1 8 + 1)) 16 (s.1 8)).1 2 = s.1 2 from (replU_e.1 2 (by decide)).trans ((v5'.1 2 (by decide)).trans (y1.1 2 (by decide)))]
            exact ⟨g2.1, g2.2.1, g2.2.2.1, g2.2.2.2.1⟩
          · show s.1 8 ∈ _
            have hm := hd_mem _ v3
            rw [l2] at hm
            exact hl.2 _ hm
        have XE : eqx [8, 15, 16, 41] [9, 10, 11, 12, 13, 14, 36, 42] y (us (ua (replU v (s.1 16) (s.1 8)) 42 (s.1 16) (s.1 8 + 1)) 16 (s.1 8)) :=
          eqx_us (eqx_ua ((v5'.up (fun y q => by simp at q ⊢; omega) (fun y q => by simp at q ⊢; omega)).tr (replU_e.up (fun y q => by simp at q ⊢; omega) (fun y q => by simp at q ⊢; omega))) (by decide)) (by decide)
        refine act_end (s' := us (ua (replU v (s.1 16) (s.1 8)) 42 (s.1 16) (s.1 8 + 1)) 16 (s.1 8)) h hN hc hK y1 y3 XE ?_ ?_ SX.rf (fun u u1 u2 => H0 e u f0 hSp ⟨?_, ⟨?_, ?_, ?_⟩, ?_, ?_, ?_, u2, ?_, ?_, ?_⟩)
        · show s.1 8 ≤ (replU v (s.1 16) (s.1 8)).1 8; omega
        · intro z _ z1
          rw [f9]; exact (o9 z z1).1
        · refine SX.tr (SX.eq y1 (by decide) (by decide)) (SX.tr (SX.eq XE (by decide) (by decide)) ((SX.eq (s := us (ua (replU v (s.1 16) (s.1 8)) 42 (s.1 16) (s.1 8 + 1)) 16 (s.1 8)) (eqx_us eqx.rf (ys := [35]) (fs := []) (y := 35) (z := chg (s.1 35) 1) (by decide)) (by decide) (by decide)).tr (u1.up (by decide) (by decide))))
        · rw [u1.1 8 (by decide) (by decide)]
          show (replU v (s.1 16) (s.1 8)).1 8 = _
          omega
        · rw [u1.1 16 (by decide) (by decide)]; rfl
        · rw [u1.1 35 (by decide) (by decide)]; rfl
        · intro z z1
          have hi : ∀ f, f = 9 ∨ f = 10 ∨ f = 11 → ¬ scI f z := fun f q => by unfold scI; omega
          rw [u1.2 9 (by decide) (by decide) z (hi 9 (by decide)), u1.2 10 (by decide) (by decide) z (hi 10 (by decide)), u1.2 11 (by decide) (by decide) z (hi 11 (by decide)), us_2, f9, f10, f11]
          exact o9 z z1
        · intro k x hk
          have hkl := (List.getElem?_eq_some_iff.mp hk).1
          have hi : ∀ f, f = 9 ∨ f = 10 ∨ f = 11 → ¬ scI f (s.1 8 + k) := fun f q => by unfold scI; omega
          rw [u1.2 9 (by decide) (by decide) _ (hi 9 (by decide)), u1.2 10 (by decide) (by decide) _ (hi 10 (by decide)), u1.2 11 (by decide) (by decide) _ (hi 11 (by decide)), us_2, f9, f10, f11]
          exact v6 k x hk
        · intro z
          rw [u1.2 42 (by decide) (by decide) z (by unfold scI; omega), us_2, us_2, ua_2]
          by_cases q : z = s.1 16
          · rw [if_pos ⟨rfl, q⟩, if_pos q]
          · rw [if_neg (by omega), if_neg q, replU_e.2 42 (by decide), v5'.2 42 (by decide), y1.2 42 (by decide)]
        · exact AFT.x (ey := [24, 35]) (ef := [25, 26, 27, 28, 29]) aft (SX.tr (SX.eq (eqx_us eqx.rf (ys := [35]) (fs := []) (y := 35) (z := chg (s.1 35) 1) (by decide)) (by decide) (by decide)) (u1.up (by decide) (by decide))) (by decide) (by decide)
        · intro z z1
          have hi : ∀ f, f = 12 ∨ f = 13 → ¬ scI f z := fun f q => by unfold scI; omega
          rw [u1.2 12 (by decide) (by decide) z (hi 12 (by decide)), u1.2 13 (by decide) (by decide) z (hi 13 (by decide)), us_2, fo 12 (by decide), fo 13 (by decide)]
          have q1 := r4 z (by omega)
          have q2 := o12 z z1
          exact ⟨q1.1.trans q2.1, q1.2.trans q2.2⟩
        · have hpos : 0 < (fl e.1).length := by
            obtain ⟨r, er⟩ := fl_hd _ b4
            rw [er]; simp
          have hi : ∀ f, f = 12 ∨ f = 13 → ¬ scI f (s.1 8) := fun f q => by unfold scI; omega
          rw [u1.2 12 (by decide) (by decide) _ (hi 12 (by decide)), u1.2 13 (by decide) (by decide) _ (hi 13 (by decide)), us_2, fo 12 (by decide), fo 13 (by decide)]
          exact r1
  · unfold filF
    have : filN s Sh p = 0 := by
      unfold filN
      obtain ⟨s1, s2⟩ := hS p hp.1 (by omega)
      cases hSp : Sh p with
      | none => rfl
      | some e => have := (s2 e hSp).1; show (fl e.1).length = 0; omega
    rw [if_pos (by omega), if_pos ho, if_pos this]
end
