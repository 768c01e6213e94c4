/-! A step of the pair: fill. -/
section
variable {iv : List (Int × Int)} {L : Nat} {h0 : MH} {A A' : Int → Nat} {c e : SC} {s w v : SM} {t t' : Term} {n : Int} {K K' : List Snap} {Sh : Int → Option Snap} {V : Term} {W : List (Int × Int)} {d d2 : Nat} {z : Int} {u : Snap}
theorem fil_pair (hM : MS n s t K Sh V W) (hD : DKc A c s t K Sh ∧ WKD A c s V ∧ DLK A c s t W) (hq : filF s t Sh z = 0) (hSp : Sh z = some u) (hF : FDONE s t K u v) (ha : FIL A c s t K u e) : PAIR n v e ∧ RQ c e := by
  obtain ⟨d1, d2', d3⟩ := hD
  have hT := hM.1.1
  have hX := d1.1.1.1
  have hB := hT.1.2.2.2.2.1
  obtain ⟨z0, z1, z2⟩ : (0 ≤ z ∧ z < 6) ∧ s.2 9 (s.1 16) = 0 ∧ ((fl t).length - 1 + (fl u.1).length ≤ 60 ∧ s.1 8 + (fl u.1).length ≤ 3000) := by
    have fn : filN s Sh z = (fl u.1).length := by unfold filN; rw [hSp]
    unfold filF at hq
    rw [fn] at hq
    split at hq
    · rename_i q1
      split at hq
      · rename_i q2
        split at hq
        · cases hq
        · split at hq
          · cases hq
          · exact ⟨q1, q2, by omega⟩
      · cases hq
    · cases hq
  obtain ⟨s1, s2⟩ := hM.2.2.1.2 z z0.1 z0.2
  obtain ⟨b1, b2, b3⟩ := s2 u hSp
  have hpos := List.length_pos_of_mem (hd_mem _ b2.1)
  have hbear : ∀ x, x ∈ fl u.1 → bearOk (s.1 2) (u.2.2 9 x) (u.2.2 10 x) (u.2.2 11 x) := fun x hx => by
    obtain ⟨k, hk1, hk2⟩ := List.mem_iff_getElem.mp hx
    exact (b3 k x (by rw [List.getElem?_eq_getElem hk1, hk2])).2
  obtain ⟨A', st, g1, g2, g3, g4, g5, g6, g7, g8, g9⟩ := DKc.fil d1 hT hM.2.1.1 ha
  have hAf := fil_aft g2 hT b2 hbear z2
  obtain ⟨⟨v8, v16, v2⟩, vo, vn⟩ := fil_old g2 hT
  have hM' := MS_fil hM z0 hSp z1 hF
  obtain ⟨hx, ⟨w1, w2, w3⟩, w4, w5, w6, w7, w8, w9, w10, w11⟩ := hF
  have fr : ∀ f, f ≠ 9 ∧ f ≠ 10 ∧ f ≠ 11 ∧ f ≠ 12 ∧ f ≠ 13 ∧ f ≠ 14 → (filV s st).2 f = s.2 f := fun f hf => by
    rw [filV_o ⟨hf.2.2.2.1, hf.2.2.2.2.1, hf.2.2.2.2.2⟩]
    exact g2.2.1.2 f (by simp; omega)
  have KIf : KIs (filV s st) := KIs_e hM.1.2.1 v2 ⟨fr 4 (by decide), fr 5 (by decide), fr 6 (by decide), fr 7 (by decide)⟩
  have r1 : R1 A' e v (filT s t u) := R1_cg g1.1 hAf.1 w8.1 hAf.2.1 KIf (w1.trans v8.symm) (w2.trans v16.symm) ((hx.1 2 (by decide) (by decide)).trans v2.symm) (fun x x0 x1 => by
    by_cases q : x < s.1 8
    · obtain ⟨p1, p2, p3⟩ := w4 x q
      obtain ⟨q1, q2, q3⟩ := vo x q
      rw [p1, p2, p3, q1, q2, q3]
      exact ⟨rfl, rfl, rfl⟩
    · obtain ⟨j, hj⟩ : ∃ j : Nat, x = s.1 8 + j := ⟨(x - s.1 8).toNat, by omega⟩
      have hg := List.getElem?_eq_getElem (show j < (fl u.1).length by omega)
      obtain ⟨p1, p2, p3⟩ := w5 j _ hg
      obtain ⟨q1, q2, q3⟩ := vn j _ hg
      rw [hj, p1, p2, p3, q1, q2, q3]
      exact ⟨rfl, rfl, rfl⟩) (fun k k0 k1 => by
    have hn := hM.1.2.1.1
    have hi : ∀ f, (f = 4 ∨ f = 5 ∨ f = 6 ∨ f = 7) → ¬ scI f k := fun f q => by unfold scI; omega
    rw [hx.2 4 (by decide) (by decide) k (hi 4 (by decide)), hx.2 5 (by decide) (by decide) k (hi 5 (by decide)), hx.2 6 (by decide) (by decide) k (hi 6 (by decide)), hx.2 7 (by decide) (by decide) k (hi 7 (by decide)), fr 4 (by decide), fr 5 (by decide), fr 6 (by decide), fr 7 (by decide)]
    exact ⟨rfl, rfl, rfl, rfl⟩)
  have e71 : (filV s st).1 71 = s.1 71 := (replU_e.1 71 (by decide)).trans (g2.2.1.1 71 (by decide))
  have e0 : (filV s st).1 0 = s.1 0 := (replU_e.1 0 (by decide)).trans (g2.2.1.1 0 (by decide))
  have sb : SBX (filV s st) v := ⟨⟨(hx.1 71 (by decide) (by decide)).trans e71.symm, fun i _ _ => by rw [hx.row (f := 72) (by decide) (by decide) (by decide), fr 72 (by decide)]⟩, (hx.1 0 (by decide) (by decide)).trans e0.symm, fun f _ _ => by rw [hx.row (f := 1) (by decide) (by decide) (by decide), fr 1 (by decide)]⟩
  have dk : DKc A' e v (filT s t u) (push K (t, s)) Sh := ⟨r1, ⟨g1.2.1.1.sb sb, g1.2.1.2.1.sb sb, g1.2.1.2.2⟩, g1.2.2⟩
  have h35 : v.1 35 = 0 ↔ s.1 35 = 0 := by
    rw [w3]
    unfold chg
    by_cases q : s.1 35 = 0
    · rw [if_neg (fun w => w q), if_pos (by decide)]; exact ⟨fun _ => q, fun _ => rfl⟩
    · rw [if_pos q]; exact ⟨fun w => absurd w (by decide), fun w => absurd w q⟩
  have mem := fil_mem hT.1 hT.2.2 z1 b2.1
  refine ⟨⟨A', filT s t u, push K (t, s), Sh, V, W, hM', dk, WKD_x d2' hX g5 unY_w.1 unY_w.2.1 (w183 hX g5 (by decide) acR_w.2) g3 ⟨hx.1 56 (by decide) (by decide), hx.1 60 (by decide) (by decide), hx.1 61 (by decide) (by decide)⟩ (fun b hb => (w4 b hb).1) (by omega), DLK_fil d3 hX d1.1.1.2.1 r1.1.2.1 g3 g5 g6 ⟨by omega, by omega⟩ g7 h35 (mm hM) hT.2.2 (fun x hx' => ?_) g8 g9 w6 hM.2.2.2.1.1 hM.2.2.2.1.2 (by omega) hM.2.2.2.2.2.2⟩, RQ_cx hX g5 unY_w.1 g4 (by decide) (by decide)⟩
  rcases (mem x).mp hx' with q | q
  · exact ⟨by have := mm hM x q.1; omega, Or.inl q⟩
  · exact ⟨by omega, Or.inr q.1⟩
theorem ps_fill (h : PAIR n s c) (hn : n ≤ 512) (hdd : 400 ≤ d) (hd2 : 400 ≤ d2) : cm iv L h0 d 115 [vr 307, vi z] s (qi fun r s' => ∀ h0', ck iv L h0' d2 20 [vr 64, vi z] c (qi (PQ (n + 1) c r s'))) := by
  have hP := h
  obtain ⟨A, t, K, Sh, V, W, hM, hD⟩ := h
  have hT := hM.1.1
  have hr := fnd_b (f := 1) hM hD.1 hn (by decide)
  have go : ∀ (k : Nat) (F : Int → SC → Prop) (h0' : MH), filF s t Sh z = k → (k = 1 → F (-1) c) → (k = 2 → F (-4) c) → (k = 3 → F (-3) (refC c 1)) → (k = 4 → F (-2) c) → (k = 0 → ∀ u, Sh z = some u → ∀ e, FIL A c s t K u e → F (s.1 8) e) → ck iv L h0' d2 20 [vr 64, vi z] c (qi F) := fun k F h0' e f1 f2 f3 f4 f0 => fill_c hD.1.1 hT hM.1.2.1 hD.1.2.2.1 (KPs hM) hD.1.2.2.2 hM.2.2.1.2 hr (by omega) (fun q => f1 (e.symm.trans q)) (fun q => f2 (e.symm.trans q)) (fun q => f3 (e.symm.trans q)) (fun q => f4 (e.symm.trans q)) (fun u q hu e' ha => f0 (e.symm.trans q) u hu e' ha)
  refine fill_ok hT hM.2.1.2 (by omega) hM.2.2.1.2 hM.2.2.1.1 (by omega) (fun q h0' => ?_) (fun q h0' => ?_) (fun q h0' => ?_) (fun w q hx h0' => ?_) (fun u v q hSp hF h0' => ?_)
  · exact go 1 _ h0' q (fun _ => ⟨rfl, PAIR_up hP (by omega), RQ.rf⟩) (fun w => absurd w (by decide)) (fun w => absurd w (by decide)) (fun w => absurd w (by decide)) (fun w => absurd w (by decide))
  · exact go 2 _ h0' q (fun w => absurd w (by decide)) (fun _ => ⟨rfl, PAIR_up hP (by omega), RQ.rf⟩) (fun w => absurd w (by decide)) (fun w => absurd w (by decide)) (fun w => absurd w (by decide))
  · have := ref_pair (f := 1) hM hD (by decide)
    exact go 3 _ h0' q (fun w => absurd w (by decide)) (fun w => absurd w (by decide)) (fun _ => ⟨rfl, this.1, this.2⟩) (fun w => absurd w (by decide)) (fun w => absurd w (by decide))
  · exact go 4 _ h0' q (fun w => absurd w (by decide)) (fun w => absurd w (by decide)) (fun w => absurd w (by decide)) (fun _ => ⟨rfl, PAIR_up (PAIR_sx hP hx) (by omega), RQ.rf⟩) (fun w => absurd w (by decide))
  · refine go 0 _ h0' q (fun w => absurd w (by decide)) (fun w => absurd w (by decide)) (fun w => absurd w (by decide)) (fun w => absurd w (by decide)) (fun _ u' hu ec ha => ?_)
    obtain rfl : u = u' := by rw [hSp] at hu; injection hu
    have := fil_pair hM hD q hSp hF ha
    exact ⟨rfl, PAIR_up this.1 (by omega), this.2⟩
end
