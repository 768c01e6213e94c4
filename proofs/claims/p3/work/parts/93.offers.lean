/-! What may fill a hole. -/
theorem SHW_rp {s w : SM} {t u : Term} {c : Int} (h : SHT s t) (hc : c ∈ fl t) (hu : AT (w.2 9) (w.2 14) (w.2 12) (w.2 13) 3004 u) (hf : full (w.2 9) u) (hnd : (fl u).Nodup) (hdis : ∀ y, y ∈ fl u → y ∈ fl t → y ∈ fl (sq c t))
    (hs : ∀ y, y ∈ fl t → y ∉ fl (sq c t) → w.2 9 y = s.2 9 y ∧ w.2 12 y = s.2 12 y ∧ w.2 13 y = s.2 13 y ∧ ∀ i, 0 ≤ i → i < 3 → 3 * y + i ≠ 3 * s.2 12 c + s.2 13 c → w.2 14 (3 * y + i) = s.2 14 (3 * y + i))
    (hup : w.2 12 (hd u) = s.2 12 c ∧ w.2 13 (hd u) = s.2 13 c) (hpa : c ≠ hd t → w.2 14 (3 * s.2 12 c + s.2 13 c) = hd u) (htop : w.1 15 = if c = hd t then hd u else s.1 15) : SHW w (rpT c u t) := by
  obtain ⟨h1, h2, h3, h4, h5, h6, h7, h8⟩ := h
  have hnd2 : (fl (rpT c u t)).Nodup := by
    obtain ⟨a, z, e1, e2, -⟩ := rpT_fl h1 h3 hc
    rw [e2]
    rw [e1] at h3
    obtain ⟨n1, n2, n3⟩ := List.nodup_append.mp h3
    obtain ⟨n4, n5, n6⟩ := List.nodup_append.mp n2
    refine List.nodup_append.mpr ⟨n1, List.nodup_append.mpr ⟨hnd, n5, fun x hx y hy e => ?_⟩, fun x hx y hy e => ?_⟩
    · subst e
      have := hdis x hx (by rw [e1]; simp [hy])
      exact n6 x this x hy rfl
    · subst e
      rcases List.mem_append.mp hy with hy | hy
      · have := hdis x hy (by rw [e1]; simp [hx])
        exact n3 x hx x (List.mem_append_left _ this) rfl
      · exact n3 x hx x (List.mem_append_right _ hy) rfl
  by_cases e : hd t = c
  · have er : rpT c u t = u := if_pos e
    rw [er] at hnd2 ⊢
    rw [if_pos e.symm] at htop
    rw [← e, h7, h8] at hup
    exact ⟨hu, hf, hnd2, htop.symm, hup.1, hup.2⟩
  · have er : rpT c u t = rp c u t := if_neg e
    have es : sq c t = sb c t := if_neg e
    rw [es] at hs hdis
    rw [er] at hnd2 ⊢
    rw [if_neg (Ne.symm e)] at htop
    obtain ⟨q1, q2⟩ := rp_hd (x := c) (u := u) t
    obtain ⟨b1, b2, b3, b4, b5, b6⟩ := sb_ok t h1 h3 hc (Ne.symm e)
    have ht := hd_mem t h1
    have hst := hs _ ht b5
    refine ⟨AT_rp (show s.1 8 ≤ 3004 by omega) hu hf t h1 h3 hc (Ne.symm e) (fun y hy hn => ⟨(hs y hy hn).1, fun i i0 i1 _ ne => (hs y hy hn).2.2.2 i i0 (by have := pO_in (s.2 9 y); omega) ne⟩) (fun y hy hn _ => ⟨(hs y hy hn).2.1, (hs y hy hn).2.2.1⟩) (hpa (Ne.symm e)) hup.1 hup.2, ?_, hnd2, ?_, ?_, ?_⟩
    · unfold full
      rw [q1, q2, hst.1]
      exact h2
    · rw [q1, htop]; exact h6
    · rw [q1, hst.2.1]; exact h7
    · rw [q1, hst.2.2.1]; exact h8
section
variable {iv : List (Int × Int)} {L : Nat} {h0 : MH} {s : SM} {t : Term} {d : Nat}
theorem judge_gen {F : SM → Prop} (h : SHW s t) (hl : (fl t).length ≤ 64) (htd : ∀ x, x ∈ fl t → s.2 9 x = 8 ∨ s.2 9 x = 15 → 0 ≤ s.2 11 x ∧ s.2 11 x < s.1 2) (hK : KIs s) (hD : 260 ≤ d) (hF : ∀ w, JW s w t → F w) : cm iv L h0 d 86 [vr 307] s (qv F) := by
  obtain ⟨d, rfl⟩ : ∃ k, d = k + 1 := ⟨d - 1, by omega⟩
  have hdp := dpt_len t h.1
  have htop := h.2.2.2.1
  have hT : PRT (us s 3 40) t := ⟨h.1, h.2.1, h.2.2.1, htd, fun x hx => DP_up _ _ _ (by omega) (AT_DP (Int.le_refl _) t 1 h.1 (Or.inl h.2.2.2.2.1) x hx)⟩
  have hKJ : KJs (us s 3 40) := ⟨hK, Int.le_refl 40, fun k k1 k2 => by exfalso; have : k < 40 := k2; omega⟩
  have hP : PRJ (us s 3 40) (hd t) (fl t) J0 (fun _ => False) := ⟨hKJ, fun x => Or.inl (by
    show bnd (s.2 9) (s.2 10) (s.2 12) (s.2 13) 70 (hd t) x = -9
    unfold bnd
    rw [if_pos h.2.2.2.2.1]), fun x q => q.elim, fun x q => q.elim⟩
  have := jsp_all (iv := iv) (L := L) (h0 := h0) (dpt t) t (us s 3 40) (-1) none J0 (fun _ => False) (Nat.le_refl _) hT hP rfl (by show (40 : Int) + _ ≤ 6000; omega)
  rw [htop] at this
  refine B86 (wci_mono this (by omega) ?_)
  rintro r w ⟨hX, hb, hr, hj⟩
  refine hF w ⟨?_, fun k hk => ?_, hX.2.1, ?_, ?_⟩
  · exact (eqx_us (s := s) (t := s) eqx.rf (y := 3) (z := 40) (by decide)).tr (hX.1.up (fun _ q => q) (fun f q => by simp at q ⊢; omega))
  · exact hX.2.2.1.2.2 k hk
  · intro x hx
    exact hj x (Or.inr hx)
  · have : w.1 3 ≤ 40 + 41 * (fl t).length := hb
    omega
/-- the sheet with a trial in the place of the hole -/
def ofX (s : SM) (so v : Int) : SM := hlsU 3000 (pO so).toNat 0 (replU (bornU (us s 8 3000) so v 0) (s.1 16) 3000)
noncomputable def ofT (s : SM) (t : Term) (so : Int) : Term := rpT (s.1 16) (adds (pO so).toNat 3001 (.index 3000)) t
noncomputable def ofB (s : SM) (t : Term) (so v : Int) : Bool := decide ((jdg (ofX s so v) (ofT s t so)).2.2 3000 = 0)
theorem of_ok {so v : Int} (h : AFT s t) (hK : KIs s) (ho : s.2 9 (s.1 16) = 0) (hso : 0 ≤ so ∧ so < 16) : SHW (ofX s so v) (ofT s t so) ∧ (fl (ofT s t so)).length ≤ 63 ∧ (3000 : Int) ∈ fl (ofT s t so) ∧ (∀ y, y ∈ fl (ofT s t so) → y ∈ fl t ∨ (3000 ≤ y ∧ y < 3004)) ∧ (∀ y, y < 3000 → (ofX s so v).2 9 y = s.2 9 y ∧ (ofX s so v).2 10 y = s.2 10 y ∧ (ofX s so v).2 11 y = s.2 11 y) ∧ ((ofX s so v).2 9 3000 = so ∧ (ofX s so v).2 10 3000 = nvl so v ∧ (ofX s so v).2 11 3000 = kvl so 0) ∧ (∀ y, 3001 ≤ y → y < 3001 + pO so → (ofX s so v).2 9 y = 0 ∧ (ofX s so v).2 10 y = -9 ∧ (ofX s so v).2 11 y = -9) ∧ (∀ y, y ∈ fl (ofT s t so) → y < 3001 + pO so) ∧ (∀ y, y < 3000 → (ofX s so v).2 12 y = s.2 12 y ∧ (ofX s so v).2 13 y = s.2 13 y ∧ ∀ i, 0 ≤ i → i < 3 → 3 * y + i ≠ 3 * s.2 12 (s.1 16) + s.2 13 (s.1 16) → (ofX s so v).2 14 (3 * y + i) = s.2 14 (3 * y + i)) ∧ (ofX s so v).2 12 3000 = s.2 12 (s.1 16) ∧ (ofX s so v).2 13 3000 = s.2 13 (s.1 16) ∧ eqx [8, 15] [9, 10, 11, 12, 13, 14] s (ofX s so v) ∧ ((ofX s so v).1 15 = if s.1 16 = hd t then 3000 else s.1 15) ∧ (s.2 12 (s.1 16) = -9 → ∀ j, (ofX s so v).2 14 j = s.2 14 j ∨ 9000 ≤ j) := by
  obtain ⟨h1, h2, h3⟩ := h
  have hpo := pO_in so
  have hll := h1.2.2.2.1
  have hB := h1.2.2.2.2.1
  have hct := h1.lt h3
  -- as if 3000 births were done
  have hS : SHT (us s 8 3000) t := ⟨AT_B (by show s.1 8 ≤ 3000; omega) t h1.1, h1.2.1, h1.2.2.1, hll, by show (0 : Int) ≤ 3000 ∧ (3000 : Int) ≤ 3000; decide, h1.2.2.2.2.2.1, h1.2.2.2.2.2.2.1, h1.2.2.2.2.2.2.2⟩
  obtain ⟨n1, n2, n3, n4, n5, n6, n7⟩ := new_in (so := so) (v := v) (k := 0) hS h3 hso
  have n1 : ATs (replU (bornU (us s 8 3000) so v 0) (s.1 16) 3000) (.index 3000) := n1
  have n2 : (replU (bornU (us s 8 3000) so v 0) (s.1 16) 3000).1 8 = 3001 := n2
  obtain ⟨q1, q2, q3, q4, q5, q6, q7⟩ := hlsU_ok (b := 3000) (pO so).toNat 0 (replU (bornU (us s 8 3000) so v 0) (s.1 16) 3000) (.index 3000) n1 (by simp [fl]) rfl rfl (by rw [show (replU (bornU (us s 8 3000) so v 0) (s.1 16) 3000).2 9 3000 = so from n3.1]; omega) (by omega)
  rw [n2] at q1 q2 q3 q4 q7
  have ah := adds_hd (pO so).toNat 3001 (.index 3000)
  have ah1 : hd (adds (pO so).toNat 3001 (.index 3000)) = 3000 := ah.1
  have hl := len_rp h1 h3 (adds (pO so).toNat 3001 (.index 3000))
  rw [adds_len] at hl
  have hsp := sq_pos h1 h3
  have f1 : (fl (Term.index 3000)).length = 1 := rfl
  have mem : ∀ y, y ∈ fl (adds (pO so).toNat 3001 (.index 3000)) → 3000 ≤ y ∧ y < 3001 + pO so := fun y hy => by
    rcases adds_mem hy with q | q
    · have : y = ((3000 : Nat) : Int) := List.mem_singleton.mp q
      omega
    · omega
  have memT : ∀ y, y ∈ fl (ofT s t so) → y ∈ fl t ∨ (3000 ≤ y ∧ y < 3001 + pO so) := fun y hy => by
    obtain ⟨a, z, e1, e2, -⟩ := rpT_fl h1.1 h1.2.2.1 h3
    unfold ofT at hy
    rw [e2] at hy
    rw [e1]
    rcases List.mem_append.mp hy with q | q
    · left; simp [q]
    · rcases List.mem_append.mp q with q | q
      · right; exact mem y q
      · left; simp [q]
  have old : ∀ y, y < 3000 → (ofX s so v).2 9 y = s.2 9 y ∧ (ofX s so v).2 10 y = s.2 10 y ∧ (ofX s so v).2 11 y = s.2 11 y := fun y y1 => by
    obtain ⟨⟨c1, c2, c3⟩, -⟩ := q4 y ⟨by omega, by omega⟩
    obtain ⟨⟨d1, d2, d3⟩, -⟩ := n4 y y1
    exact ⟨c1.trans d1, c2.trans d2, c3.trans d3⟩
  have lnk : ∀ y, y < 3000 → (ofX s so v).2 12 y = s.2 12 y ∧ (ofX s so v).2 13 y = s.2 13 y ∧ ∀ i, 0 ≤ i → i < 3 → 3 * y + i ≠ 3 * s.2 12 (s.1 16) + s.2 13 (s.1 16) → (ofX s so v).2 14 (3 * y + i) = s.2 14 (3 * y + i) := fun y y1 => by
    obtain ⟨-, ⟨c4, c5⟩, c6⟩ := q4 y ⟨by omega, by omega⟩
    obtain ⟨-, ⟨d4, d5⟩, d6⟩ := n4 y y1
    exact ⟨c4.trans d4, c5.trans d5, fun i i0 i3 hi => (c6 i i0 i3).trans (d6 i hi)⟩
  have u12 : (ofX s so v).2 12 3000 = s.2 12 (s.1 16) := q6.2.2.2.1.trans n5.1
  have u13 : (ofX s so v).2 13 3000 = s.2 13 (s.1 16) := q6.2.2.2.2.trans n5.2
  have x15 : (ofX s so v).1 15 = if s.1 16 = hd t then 3000 else s.1 15 := (q5.1 15 (by decide)).trans n7
  refine ⟨SHW_rp (w := ofX s so v) h1 h3 (AT_B (by show (ofX s so v).1 8 ≤ 3004; show (hlsU 3000 _ 0 _).1 8 ≤ 3004; omega) _ q1) ?_ q2 (fun y hy hyt => ?_) (fun y hy hyn => ?_) ?_ (fun q => ?_) ?_, ?_, ?_, fun y hy => ?_, old, ⟨q6.1.trans n3.1, q6.2.1.trans n3.2.1, q6.2.2.1.trans n3.2.2⟩, fun y y0 y1 => q7 y y0 (by omega), fun y hy => ?_, lnk, u12, u13, ?_, x15, fun q j => ?_⟩
  · show na (adds _ 3001 (.index 3000)) = pO ((ofX s so v).2 9 (hd (adds _ 3001 (.index 3000))))
    rw [ah.2, ah1]
    have : (ofX s so v).2 9 3000 = so := q6.1.trans n3.1
    rw [this]
    show (0 : Int) + _ = _
    omega
  · have := mem y hy
    have := h1.lt hyt
    omega
  · have hy2 := h1.lt hy
    have l := lnk y hy2.2.2
    exact ⟨(old y hy2.2.2).1, l.1, l.2.1, l.2.2⟩
  · rw [ah1]; exact ⟨u12, u13⟩
  · rw [ah1]
    obtain ⟨u1, u2, u3⟩ := (AT_mem t h1.1 _ h3).2.2.2 q
    have ul := h1.lt u1
    have := pO_in (s.2 9 (s.2 12 (s.1 16)))
    exact ((q4 (s.2 12 (s.1 16)) ⟨by omega, by omega⟩).2.2 _ u2.1 (by omega)).trans (n6 q)
  · rw [ah1]; exact x15
  · show (fl (rpT _ _ _)).length ≤ 63
    omega
  · refine hl.2 _ ?_
    have := hd_mem _ q1
    rw [show hd (adds (pO so).toNat (3001 : Int).toNat (.index 3000)) = 3000 from ah1] at this
    exact this
  · exact (memT y hy).imp id (fun q => by omega)
  · rcases memT y hy with q | q
    · have := h1.lt q; omega
    · exact q.2
  · exact ((eqx_us (s := s) (t := s) eqx.rf (y := 8) (z := 3000) (ys := [8, 15]) (fs := [9, 10, 11, 12, 13, 14]) (by decide)).tr ((bornU_e.up (fun y q => by simp at q ⊢; omega) (fun y q => by simp at q ⊢; omega)).tr (replU_e.up (fun y q => by simp at q ⊢; omega) (fun y q => by simp at q ⊢; omega)))).tr (q5.up (fun y q => by simp at q ⊢; omega) (fun y q => q))
  · by_cases hj : j < 9000
    · left
      have n8 := n2
      have := (q4 (j / 3) ⟨by omega, by omega⟩).2.2 (j % 3) (by omega) (by omega)
      rw [show 3 * (j / 3) + j % 3 = j by omega] at this
      show (hlsU 3000 (pO so).toNat 0 (replU (bornU (us s 8 3000) so v 0) (s.1 16) 3000)).2 14 j = s.2 14 j
      rw [this]
      unfold replU
      rw [show (bornU (us s 8 3000) so v 0).2 12 (s.1 16) = -9 from by rw [bornU_e.2 12 (by decide)]; exact q, if_pos rfl]
      simp only [ua_2, us_2]
      rw [if_neg (by omega), if_neg (by omega), bornU_e.2 14 (by decide)]
      rfl
    · right; omega
theorem of_td {so v : Int} (h : AFT s t) (hK : KIs s) (ho : s.2 9 (s.1 16) = 0) (hso : 0 ≤ so ∧ so < 16) : ∀ x, x ∈ fl (ofT s t so) → (ofX s so v).2 9 x = 8 ∨ (ofX s so v).2 9 x = 15 → 0 ≤ (ofX s so v).2 11 x ∧ (ofX s so v).2 11 x < s.1 2 := fun x hx q => by
  obtain ⟨o1, o2, o3, o4, o5, o6, o7, o8, o9, o10, o11, o12, o13, o14⟩ := of_ok (v := v) h hK ho hso
  have k3 := hK.1
  rcases o4 x hx with e | e
  · have hl := h.1.lt e
    obtain ⟨e1, e2, e3⟩ := o5 x hl.2.2
    rw [e1] at q
    rw [e3]
    exact (h.2.1 x hl.1 hl.2.1).2.2.2 q
  · by_cases e3 : x = 3000
    · subst e3
      rw [o6.1] at q
      rw [o6.2.2]
      unfold kvl
      rw [if_pos q]
      omega
    · have := o7 x (by omega) (o8 x hx)
      omega
/-- what is made of a trial hangs on the sheet alone -/
theorem ofB_x {w : SM} {so v : Int} (h : AFT s t) (hK : KIs s) (ho : s.2 9 (s.1 16) = 0) (hx : SX [] [] s w) (hso : 0 ≤ so ∧ so < 16) : ofB w t so v = ofB s t so v := by
  have h8 := h.1.2.2.2.2.1.2
  have hw := h.x hx (by decide) (by decide)
  have hKw := KI_x hK hx (by decide) (by decide)
  have e16 : w.1 16 = s.1 16 := hx.1 16 (by decide) (by decide)
  have hcl := h.1.lt h.2.2
  have how : w.2 9 (w.1 16) = 0 := by rw [e16, hx.2 9 (by decide) (by decide) _ (by unfold scI; omega)]; exact ho
  obtain ⟨o1, o2, o3, o4, o5, o6, o7, o8, o9, o10, o11, o12, o13, o14⟩ := of_ok (v := v) h hK ho hso
  obtain ⟨p1, p2, p3, p4, p5, p6, p7, p8, p9, p10, p11, p12, p13, p14⟩ := of_ok (v := v) hw hKw how hso
  have eT : ofT w t so = ofT s t so := by unfold ofT; rw [e16]
  rw [eT] at p1
  have k3 := hK.1
  unfold ofB
  rw [eT, jdg_un o1 p1 (fun x hx2 => ?_) (fun x hx2 q => ?_)]
  · rcases o4 x hx2 with e | e
    · have hl := h.1.lt e
      obtain ⟨a1, a2, a3⟩ := o5 x hl.2.2
      obtain ⟨b1, b2, b3⟩ := p5 x hl.2.2
      rw [a1, a2, a3, b1, b2, b3]
      exact ⟨hx.2 9 (by decide) (by decide) x (by unfold scI; omega), hx.2 10 (by decide) (by decide) x (by unfold scI; omega), hx.2 11 (by decide) (by decide) x (by unfold scI; omega)⟩
    · by_cases e3 : x = 3000
      · subst e3
        rw [o6.1, o6.2.1, o6.2.2, p6.1, p6.2.1, p6.2.2]
        exact ⟨rfl, rfl, rfl⟩
      · obtain ⟨a1, a2, a3⟩ := o7 x (by omega) (o8 x hx2)
        obtain ⟨b1, b2, b3⟩ := p7 x (by omega) (o8 x hx2)
        rw [a1, a2, a3, b1, b2, b3]
        exact ⟨rfl, rfl, rfl⟩
  · have htd := of_td (v := v) h hK ho hso x hx2 q
    have kX : ∀ (u : SM), eqx [8, 15] [9, 10, 11, 12, 13, 14] u (ofX u so v) → kks (ofX u so v) = kks u := fun u hu => by
      funext k
      show (if 0 ≤ k ∧ k < (ofX u so v).1 2 then kt ((ofX u so v).2 4) ((ofX u so v).2 5) ((ofX u so v).2 6) k else Term.null) = _
      rw [hu.1 2 (by decide), hu.2 4 (by decide), hu.2 5 (by decide), hu.2 6 (by decide)]
      rfl
    rw [kX w p12, kX s o12]
    exact kks_ag (n := 0) hK (by rw [hx.1 2 (by decide) (by decide)]; exact Int.le_refl _) (fun k hk => ⟨hx.2 4 (by decide) (by decide) k (by unfold scI; omega), hx.2 5 (by decide) (by decide) k (by unfold scI; omega), hx.2 6 (by decide) (by decide) k (by unfold scI; omega)⟩) _ htd.1 htd.2
/-- rows alike, numbers too but for births -/
def E8 (x y : SM) : Prop := y.2 = x.2 ∧ ∀ k, k ≠ 8 → y.1 k = x.1 k
theorem isOffered_ok {so v : Int} {F : Int → SM → Prop} (h : AFT s t) (hK : KIs s) (ho : s.2 9 (s.1 16) = 0) (hso : 0 ≤ so ∧ so < 16) (hD : 300 ≤ d) (hF : ∀ w, SX [] [] s w → eqx [3, 15] [4, 5, 6, 7, 9, 10, 11, 12, 13, 14, 19, 20, 21] s w → F (if ofB s t so v then 1 else 0) w) : cm iv L h0 d 116 [vr 307, vi so, vi v] s (qi F) := by
  obtain ⟨d, rfl⟩ : ∃ k, d = k + 2 := ⟨d - 2, by omega⟩
  obtain ⟨o1, o2, o3, o4, o5, o6, o7, o8, o9, o10, o11, o12, o13, o14⟩ := of_ok (v := v) h hK ho hso
  have otd := of_td (v := v) h hK ho hso
  obtain ⟨h1, h2, h3⟩ := h
  have hct := h1.lt h3
  have h8 := h1.2.2.2.2.1
  have hpo := pO_in so
  have hup := up_in h1 h3
  -- the end
  have fin : ∀ y, E8 (ofX s so v) y → y.1 8 = s.1 8 → wm iv L h0 (d + 1 + 1) 116 26 [lr 307, li so, ln, li (s.1 16), li (pO so)] [] y (qi F) := fun y hy y8 => by
    obtain ⟨y2, y1⟩ := hy
    have yS : SHW y (ofT s t so) := by
      unfold SHW at o1 ⊢
      rw [y2, y1 15 (by decide)]
      exact o1
    have yK : KIs y := by
      show KI (y.1 2) (y.2 4) (y.2 5) (y.2 6) (y.2 7)
      rw [y2, y1 2 (by decide), o12.1 2 (by decide), o12.2 4 (by decide), o12.2 5 (by decide), o12.2 6 (by decide), o12.2 7 (by decide)]
      exact hK
    refine B116_26 ⟨by omega, fun _ => judge_gen yS (by omega) (fun x hx q => ?_) yK (by omega) (fun w hw => ?_), fun q => by omega⟩
    · rw [y2] at q ⊢
      rw [y1 2 (by decide), o12.1 2 (by decide)]
      exact otd x hx q
    · have eJ : jdg y (ofT s t so) = jdg (ofX s so v) (ofT s t so) := by
        unfold jdg
        rw [jds_e (by rw [y2]) (by rw [y2]) (by rw [y2]) (by rw [y2]) (by rw [y2]) (by rw [y2]) (y1 2 (by decide)) (fun k _ _ => by
          show kt (y.2 4) (y.2 5) (y.2 6) k = _
          rw [y2])]
      have e21 := (hw.2.2.2.1 3000 o3).2.2.1
      rw [eJ] at e21
      have w12 : w.2 12 = (ofX s so v).2 12 := (hw.1.2 12 (by decide)).trans (by rw [y2])
      have w13 : w.2 13 = (ofX s so v).2 13 := (hw.1.2 13 (by decide)).trans (by rw [y2])
      have w14 : w.2 14 = (ofX s so v).2 14 := (hw.1.2 14 (by decide)).trans (by rw [y2])
      have wr : ∀ f, f ≠ 4 ∧ f ≠ 5 ∧ f ≠ 6 ∧ f ≠ 7 ∧ f ≠ 19 ∧ f ≠ 20 ∧ f ≠ 21 → w.2 f = (ofX s so v).2 f := fun f hf => (hw.1.2 f (by simp; omega)).trans (by rw [y2])
      have wn : ∀ k, k ≠ 3 → k ≠ 8 → w.1 k = (ofX s so v).1 k := fun k k3 k8 => (hw.1.1 k (by simp; omega)).trans (y1 k k8)
      have rep : ∀ z : Int, z = (if ofB s t so v then 1 else 0) → cm iv L h0 (d + 1) 77 [vr 307, vi 3000, vi (s.1 16)] w (qv fun s3 => F z s3) := fun z hz => by
        refine replace_ok (by decide) (by rw [w12, w13, o10, o11]; exact hup) (by omega) ?_
        rw [hz]
        have e12 : w.2 12 3000 = s.2 12 (s.1 16) := by rw [w12]; exact o10
        have e13 : w.2 13 3000 = s.2 13 (s.1 16) := by rw [w13]; exact o11
        have Re : eqx [15] [12, 13, 14] w (replU w 3000 (s.1 16)) := replU_e
        have hub : s.1 16 ≠ hd t → 3 * s.2 12 (s.1 16) + s.2 13 (s.1 16) < 9000 ∧ s.2 14 (3 * s.2 12 (s.1 16) + s.2 13 (s.1 16)) = s.1 16 ∧ s.2 12 (s.1 16) ≠ -9 := fun q => by
          obtain ⟨u1, u2, u3⟩ := (AT_mem t h1.1 _ h3).2.2.2 q
          have := h1.lt u1
          have := pO_in (s.2 9 (s.2 12 (s.1 16)))
          exact ⟨by omega, u3, by omega⟩
        have r15 : (replU w 3000 (s.1 16)).1 15 = s.1 15 := by
          unfold replU
          rw [e12]
          by_cases q : s.1 16 = hd t
          · rw [if_pos (by rw [q]; exact h1.2.2.2.2.2.2.1)]
            show s.1 16 = s.1 15
            rw [q]; exact h1.2.2.2.2.2.1
          · rw [if_neg (hub q).2.2]
            show w.1 15 = _
            rw [wn 15 (by decide) (by decide), o13, if_neg q]
        have r1213 : ∀ x, x < 3000 → (replU w 3000 (s.1 16)).2 12 x = s.2 12 x ∧ (replU w 3000 (s.1 16)).2 13 x = s.2 13 x := fun x hx => by
          have b1 : (ofX s so v).2 12 x = s.2 12 x := (o9 x hx).1
          have b2 : (ofX s so v).2 13 x = s.2 13 x := (o9 x hx).2.1
          unfold replU
          rw [e12, e13]
          by_cases q : s.2 12 (s.1 16) = -9
          · rw [if_pos q]
            by_cases q2 : x = s.1 16
            · subst q2
              have q3 : s.1 16 = hd t := Classical.byContradiction fun q4 => (hub q4).2.2 q
              have q5 : s.2 13 (s.1 16) = -9 := by rw [q3]; exact h1.2.2.2.2.2.2.2
              simp [ua_2, us_2, q, q5]
            · simp only [ua_2, us_2]
              rw [if_neg (by omega), if_neg (by omega), if_neg (by omega), if_neg (by omega), w12, w13]
              exact ⟨b1, b2⟩
          · rw [if_neg q]
            by_cases q2 : x = s.1 16
            · subst q2
              simp [partU, ua_2]
            · simp only [partU, ua_2]
              rw [if_neg (by omega), if_neg (by omega), if_neg (by omega), if_neg (by omega), if_neg (by omega), if_neg (by omega), w12, w13]
              exact ⟨b1, b2⟩
        have r14 : ∀ j, j < 9000 → (replU w 3000 (s.1 16)).2 14 j = s.2 14 j := fun j hj => by
          have b : j ≠ 3 * s.2 12 (s.1 16) + s.2 13 (s.1 16) → (ofX s so v).2 14 j = s.2 14 j := fun hne => by
            have := (o9 (j / 3) (by omega)).2.2 (j % 3) (by omega) (by omega)
            rw [show 3 * (j / 3) + j % 3 = j by omega] at this
            exact this hne
          have b2 : s.2 12 (s.1 16) = -9 → (ofX s so v).2 14 j = s.2 14 j := fun q => (o14 q j).resolve_right (by omega)
          unfold replU
          rw [e12, e13]
          by_cases q : s.2 12 (s.1 16) = -9
          · rw [if_pos q]
            simp only [ua_2, us_2]
            rw [if_neg (by omega), if_neg (by omega), w14]
            exact b2 q
          · have q3 : s.1 16 ≠ hd t := fun q4 => q (by rw [q4]; exact h1.2.2.2.2.2.2.1)
            rw [if_neg q]
            simp only [partU, ua_2]
            rw [if_neg (by omega), if_neg (by omega)]
            by_cases q2 : j = 3 * s.2 12 (s.1 16) + s.2 13 (s.1 16)
            · rw [if_pos ⟨trivial, q2⟩, q2]
              exact (hub q3).2.1.symm
            · rw [if_neg (by omega), w14]
              exact b q2
        refine hF _ ⟨fun k a1 _ => ?_, fun f a1 _ i a3 => ?_⟩ ?_
        · by_cases e : k = 15
          · subst e; exact r15
          · rw [Re.1 k (by simp; omega)]
            by_cases e2 : k = 8
            · subst e2
              rw [hw.1.1 8 (by decide), y8]
            · rw [wn k (by intro q; subst q; exact a1 (by decide)) e2, o12.1 k (by simp; omega)]
        · by_cases e : f = 12 ∨ f = 13
          · have hi : i < 3000 := by unfold scI at a3; omega
            rcases e with rfl | rfl
            · exact (r1213 i hi).1
            · exact (r1213 i hi).2
          · by_cases e2 : f = 14
            · subst e2
              exact r14 i (by unfold scI at a3; omega)
            · rw [Re.2 f (by simp; omega)]
              by_cases e3 : f = 4 ∨ f = 5 ∨ f = 6 ∨ f = 7
              · have hi : i < 40 := by unfold scI at a3; omega
                obtain ⟨m1, m2, m3, m4⟩ := hw.2.1 i hi
                rcases e3 with rfl | rfl | rfl | rfl
                · rw [m1, y2, o12.2 4 (by decide)]
                · rw [m2, y2, o12.2 5 (by decide)]
                · rw [m3, y2, o12.2 6 (by decide)]
                · rw [m4, y2, o12.2 7 (by decide)]
              · have e4 : f ≠ 19 ∧ f ≠ 20 ∧ f ≠ 21 := by simp [scR] at a1; omega
                rw [wr f (by omega)]
                by_cases e5 : f = 9 ∨ f = 10 ∨ f = 11
                · have hi : i < 3000 := by unfold scI at a3; omega
                  obtain ⟨m1, m2, m3⟩ := o5 i hi
                  rcases e5 with rfl | rfl | rfl <;> assumption
                · rw [o12.2 f (by simp; omega)]
        · refine ⟨fun k hk => ?_, fun f hf => ?_⟩
          · simp at hk
            rw [Re.1 k (by simp; omega)]
            by_cases e2 : k = 8
            · subst e2
              rw [hw.1.1 8 (by decide), y8]
            · rw [wn k hk.1 e2, o12.1 k (by simp; omega)]
          · simp at hf
            rw [Re.2 f (by simp; omega), wr f (by omega), o12.2 f (by simp; omega)]
      refine ⟨fun q => rep 0 ?_, fun q => rep 1 ?_⟩
      · have : ofB s t so v = false := by unfold ofB; rw [← e21]; exact decide_eq_false q
        rw [this]; rfl
      · have : ofB s t so v = true := by unfold ofB; rw [← e21]; exact decide_eq_true q
        rw [this]; rfl
  -- the trial's parts
  have lp : ∀ (m : Nat) (i : Int) (x y : SM), 0 ≤ i → i + m = pO so → E8 x y → x.1 8 = 3001 + i → y.1 8 = s.1 8 → hlsU 3000 m i x = ofX s so v → wm iv L h0 (d + 1 + 1) 116 26 [lr 307, li so, ln, li (s.1 16), li i] [] y (qi F) := by
    intro m
    induction m with
    | zero =>
      intro i x y i0 hi hE hx8 hy8 hU
      obtain rfl : i = pO so := by omega
      exact fin y (by rw [← hU]; exact hE) hy8
    | succ m ih =>
      intro i x y i0 hi hE hx8 hy8 hU
      refine B116_26 ⟨by omega, fun q => by omega, fun _ => ⟨by omega, set_ok (by omega) (setPart_ok (by decide) (by omega) (by omega) ⟨by omega, ih (i + 1) (hlU 3000 i x) _ (by omega) (by omega) ⟨?_, fun k hk => ?_⟩ (by rw [hlU_8]; omega) hy8 hU⟩)⟩⟩
      · show (partU (setU y (3001 + i) 0 (-9) (-9)) 3000 i (3001 + i)).2 = (partU (setU (us x 8 (x.1 8 + 1)) (x.1 8) 0 (-9) (-9)) 3000 i (x.1 8)).2
        rw [hx8]
        have := hE.1
        simp only [partU, setU, ua, us, this]
      · have := hE.2 k hk
        rw [hlU_e.1 k (by simp; exact hk)]
        exact this
  refine B116 (set_ok (by decide) (replace_ok (by omega) (by rw [show (setU s 3000 so v 0).2 12 (s.1 16) = s.2 12 (s.1 16) from by simp [setU, ua_2], show (setU s 3000 so v 0).2 13 (s.1 16) = s.2 13 (s.1 16) from by simp [setU, ua_2]]; exact hup) (by decide) ?_))
  refine lp (pO so).toNat 0 (replU (bornU (us s 8 3000) so v 0) (s.1 16) 3000) _ (by omega) (by omega) ⟨?_, fun k hk => ?_⟩ ?_ ?_ rfl
  · have e1 : (bornU (us s 8 3000) so v 0).2 = (setU s 3000 so v 0).2 := rfl
    unfold replU
    rw [e1]
    split
    · rfl
    · rfl
  · have e1 : (bornU (us s 8 3000) so v 0).2 = (setU s 3000 so v 0).2 := rfl
    unfold replU
    rw [e1]
    have e2 : (bornU (us s 8 3000) so v 0).1 k = s.1 k := by
      show (us (us s 8 3000) 8 ((us s 8 3000).1 8 + 1)).1 k = s.1 k
      rw [us_1, if_neg hk, us_1, if_neg hk]
    split
    · show (if k = 15 then (3000 : Int) else s.1 k) = if k = 15 then 3000 else (bornU (us s 8 3000) so v 0).1 k
      rw [e2]
    · exact e2.symm
  · rw [replU_e.1 8 (by decide)]
    show (3000 : Int) + 1 = 3001 + 0
    decide
  · rw [replU_e.1 8 (by decide)]
    rfl
end
