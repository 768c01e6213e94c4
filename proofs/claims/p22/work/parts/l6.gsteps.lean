section
/-! Steps of the pair: acts. -/
section
variable {iv : List (Int × Int)} {L : Nat} {h0 : MH} {A A' : Int → Nat} {c e : SC} {s s1 w v : SM} {t t' : Term} {n : Int} {K K' : List Snap} {Sh : Int → Option Snap} {V : Term} {W : List (Int × Int)} {ey ef : List Nat} {ys : List (Nat × Nat)} {rs : List Nat} {d d2 : Nat} {b i so z k f : Int}
/-- what a step leaves -/
def PQ (n : Int) (c : SC) (r : Int) (s' : SM) (r' : Int) (c' : SC) : Prop := r = r' ∧ PAIR n s' c' ∧ RQ c c'
theorem KPs (h : MS n s t K Sh V W) : ∀ u, u ∈ K → KP s u := fun u hu => by
  obtain ⟨i, hi, rfl⟩ := List.mem_iff_getElem.mp hu
  exact (h.2.2.1.1.2.2 i K[i] (List.getElem?_eq_getElem hi)).2
theorem fnd_b (hM : MS n s t K Sh V W) (hD : DKc A c s t K Sh) (hn : n ≤ 512) (hf : 0 ≤ f ∧ f < 6) : 0 ≤ aI c 198 f ∧ aI c 198 f ≤ 600 := by
  rw [hD.2.1.2.1.2 f hf.1 hf.2]
  have := hM.2.1.2 f hf.1 hf.2
  omega
/-- a finding, on both sides -/
theorem ref_pair (hM : MS n s t K Sh V W) (hD : DKc A c s t K Sh ∧ WKD A c s V ∧ DLK A c s t W) (hf : 0 ≤ f ∧ f < 6) : PAIR (n + 1) (mtU s f) (refC c f) ∧ RQ c (refC c f) := by
  obtain ⟨d1, d2, d3⟩ := hD
  have hX := d1.1.1.1
  have hT := hM.1.1
  have hM' := MS_mt hM hf
  have hx := refC_x (f := f) hX
  have sx : SX [0] [1] s (mtU s f) := SX.eq (ys := [0]) (fs := [1]) (eqx_ua (eqx_us eqx.rf (by decide)) (by decide)) (by decide) (by decide)
  have np : NPY fnY [198] := ⟨fun y => ⟨by unfold fnY; simp, by unfold fnY; simp⟩, ⟨by decide, by decide⟩, by decide, by decide, by decide, by decide⟩
  have row : ∀ g, g ≠ 1 → (mtU s f).2 g = s.2 g := fun g hg => by
    funext i
    show (if g = 1 ∧ i = f then _ else s.2 g i) = s.2 g i
    rw [if_neg (fun q => hg q.1)]
  have r1 := R1_sx (d1.1.ref (f := f) hT.1) hT.1 hM'.1.1.1 hT.2.1 hM.1.2.1 sx (by decide) (by decide)
  have b0 := d1.2.1.1.x hX hx (by decide) (by decide)
  have b1 : BXc A (refC c f) (mtU s f) := ⟨b0.1, fun i i0 i8 => by rw [row 72 (by decide)]; exact b0.2 i i0 i8⟩
  exact ⟨⟨A, t, K, Sh, V, W, hM', ⟨r1, ⟨b1, d1.2.1.2.1.ref hf, d1.2.1.2.2.x hX hx (by decide) (fun a ha => by simp at ha; omega)⟩, d1.2.2.1.x hX EXT.rf hT.1.2.2.2.2.1.1 (KPs hM) hx (by decide) (by decide), d1.2.2.2.x hX hx (by decide) (fun a ha => by simp at ha; omega)⟩, WKD_x d2 hX hx np (fun y => by unfold fnY; simp) (w183 hX hx (by decide) (by decide)) EXT.rf ⟨rfl, rfl, rfl⟩ (fun b _ => by rw [row 9 (by decide)]) (Int.le_refl _), DLK_x d3 hX d1.1.1.2.1 hx RMk.rf ⟨fun k => by unfold fnY; simp, fun k => by unfold fnY; simp, by decide⟩ (mm hM) rfl rfl (fun b _ _ => by rw [row 42 (by decide)])⟩, RQ_cx hX hx np (k := 0) (m := 0) RMk.rf (by decide) (by decide)⟩
theorem ps_take (h : PAIR n s c) (hd : 400 ≤ d) (hd2 : 400 ≤ d2) : cm iv L h0 d 108 [vr 307] s (qi fun r s' => ∀ h0', ck iv L h0' d2 14 [vr 64] c (qi (PQ (n + 1) c r s'))) := by
  obtain ⟨A, t, K, Sh, V, W, hM, hD⟩ := h
  have hT := hM.1.1
  refine take_ok hT.1 hT.2.1 hT.2.2 hM.2.2.1.1 (by omega) (fun hn h0' => ?_) (fun hg w hw h0' => ?_)
  · exact take_c hD.1.1 hT hM.1.2.1 hD.1.2.2.1 (KPs hM) (by omega) (fun _ => ⟨rfl, PAIR_up ⟨A, t, K, Sh, V, W, hM, hD⟩ (by omega), RQ.rf⟩) (fun q => absurd q hn)
  · refine take_c hD.1.1 hT hM.1.2.1 hD.1.2.2.1 (KPs hM) (by omega) (fun q => absurd hg q) (fun _ e ha => ?_)
    have := act_pair hM hD hw (take_aft hT hg) (take_ac hM.1.2.2.1) (fun x hx => take_in hT hx) ha
    exact ⟨rfl, PAIR_up this.1 (by omega), this.2⟩
theorem ps_write (h : PAIR n s c) (hd : 400 ≤ d) (hd2 : 400 ≤ d2) : cm iv L h0 d 110 [vr 307, vi z] s (qi fun r s' => ∀ h0', ck iv L h0' d2 16 [vr 64, vi z] c (qi (PQ (n + 1) c r s'))) := by
  obtain ⟨A, t, K, Sh, V, W, hM, hD⟩ := h
  have hT := hM.1.1
  refine write_ok hT.1 hT.2.1 hT.2.2 hM.2.2.1.1 (by omega) (fun hn h0' => ?_) (fun hg w hw h0' => ?_)
  · exact write_c hD.1.1 hT hM.1.2.1 hD.1.2.2.1 (KPs hM) (by omega) (fun _ => ⟨rfl, PAIR_up ⟨A, t, K, Sh, V, W, hM, hD⟩ (by omega), RQ.rf⟩) (fun q => absurd q hn)
  · refine write_c hD.1.1 hT hM.1.2.1 hD.1.2.2.1 (KPs hM) (by omega) (fun q => absurd hg q) (fun _ e ha => ?_)
    have := act_pair hM hD hw (wri_aft hT hg) (write_ac hM.1.2.2.1 (mm hM _ hT.2.2) hg) (fun x hx => Or.inl hx) ha
    exact ⟨rfl, PAIR_up this.1 (by omega), this.2⟩
theorem ps_rename (h : PAIR n s c) (hd : 400 ≤ d) (hd2 : 400 ≤ d2) : cm iv L h0 d 111 [vr 307, vi z] s (qi fun r s' => ∀ h0', ck iv L h0' d2 17 [vr 64, vi z] c (qi (PQ (n + 1) c r s'))) := by
  obtain ⟨A, t, K, Sh, V, W, hM, hD⟩ := h
  have hT := hM.1.1
  refine rename_ok hT.1 hT.2.1 hT.2.2 hM.2.2.1.1 (by omega) (fun w hn hx h0' => ?_) (fun hg w hw h0' => ?_)
  · exact rename_c hD.1.1 hT hM.1.2.1 hD.1.2.2.1 (KPs hM) (by omega) (fun _ => ⟨rfl, PAIR_up (PAIR_sx ⟨A, t, K, Sh, V, W, hM, hD⟩ hx) (by omega), RQ.rf⟩) (fun q => absurd q hn)
  · refine rename_c hD.1.1 hT hM.1.2.1 hD.1.2.2.1 (KPs hM) (by omega) (fun q => absurd hg q) (fun _ e ha => ?_)
    have := act_pair hM hD hw (ren_aft hT hg) (rename_ac hM.1.2.2.1 hT hg) (fun x hx => Or.inl hx) ha
    exact ⟨rfl, PAIR_up this.1 (by omega), this.2⟩
theorem ps_move (h : PAIR n s c) (hd : 400 ≤ d) (hd2 : 400 ≤ d2) : cm iv L h0 d 112 [vr 307, vi z] s (qi fun r s' => ∀ h0', ck iv L h0' d2 18 [vr 64, vi z] c (qi (PQ (n + 1) c r s'))) := by
  obtain ⟨A, t, K, Sh, V, W, hM, hD⟩ := h
  have hT := hM.1.1
  refine move_ok hT.1 hT.2.1 hT.2.2 hM.2.2.1.1 (by omega) (fun w hn hx h0' => ?_) (fun hg w hw h0' => ?_)
  · exact move_c hD.1.1 hT hM.1.2.1 hD.1.2.2.1 (KPs hM) (by omega) (fun _ => ⟨rfl, PAIR_up (PAIR_sx ⟨A, t, K, Sh, V, W, hM, hD⟩ hx) (by omega), RQ.rf⟩) (fun q => absurd q hn)
  · refine move_c hD.1.1 hT hM.1.2.1 hD.1.2.2.1 (KPs hM) (by omega) (fun q => absurd hg q) (fun _ e ha => ?_)
    have := act_pair hM hD hw (mv_aft hT hg) (move_ac hM.1.2.2.1) (fun x hx => move_in hT hx) ha
    exact ⟨rfl, PAIR_up this.1 (by omega), this.2⟩
theorem putA_of (hg : putOk s t so z k) : putA s t so z k = s.1 8 := by
  obtain ⟨⟨g1, g2, g3, g4⟩, g5, g6, g7⟩ := hg
  unfold putA
  rw [if_pos ⟨g1, fun q => q.2 (g2 q.1), fun q => q.2 (g3 q.1), fun q => q.2 (g4 q.1)⟩, if_neg g5, if_neg (by omega)]
theorem ps_put (h : PAIR n s c) (hd : 400 ≤ d) (hd2 : 400 ≤ d2) : cm iv L h0 d 107 [vr 307, vi so, vi z, vi k] s (qi fun r s' => ∀ h0', ck iv L h0' d2 13 [vr 64, vi so, vi z, vi k] c (qi (PQ (n + 1) c r s'))) := by
  obtain ⟨A, t, K, Sh, V, W, hM, hD⟩ := h
  have hT := hM.1.1
  refine put_ok hT.1 hT.2.1 hM.1.2.1 hT.2.2 hM.2.2.1.1 (by omega) (fun w hn hx h0' => ?_) (fun hg w hw h0' => ?_)
  · exact put_c hD.1.1 hT hM.1.2.1 hD.1.2.2.1 (KPs hM) (by omega) (fun _ => ⟨rfl, PAIR_up (PAIR_sx ⟨A, t, K, Sh, V, W, hM, hD⟩ hx) (by omega), RQ.rf⟩) (fun q => absurd q hn)
  · refine put_c hD.1.1 hT hM.1.2.1 hD.1.2.2.1 (KPs hM) (by omega) (fun q => absurd hg q) (fun _ e ha => ?_)
    have := act_pair hM hD hw (put_aft hT hg) (put_ac hM.1.2.2.1) (fun x hx => put_in hT hg hx) ha
    exact ⟨putA_of hg, PAIR_up this.1 (by omega), this.2⟩
theorem ps_unwrap (h : PAIR n s c) (hn : n ≤ 512) (hd : 400 ≤ d) (hd2 : 400 ≤ d2) : cm iv L h0 d 109 [vr 307, vi i] s (qi fun r s' => ∀ h0', ck iv L h0' d2 15 [vr 64, vi i] c (qi (PQ (n + 1) c r s'))) := by
  obtain ⟨A, t, K, Sh, V, W, hM, hD⟩ := h
  have hT := hM.1.1
  have hr := fnd_b (f := 2) hM hD.1 hn (by decide)
  refine unwrap_ok hT.1 hT.2.1 hM.2.1.2 (by omega) hT.2.2 hM.2.2.1.1 (by omega) (fun hn h0' => ?_) (fun hg w hw h0' => ?_)
  · refine unwrap_c hD.1.1 hT hM.1.2.1 hD.1.2.2.1 (KPs hM) (by omega) hr (fun hp => ?_) (fun hp _ => ?_) (fun q => absurd q hn)
    · refine ⟨?_, ?_, RQ.rf⟩
      · unfold uwA; rw [if_pos hp]
      · unfold uwN; rw [if_pos hp]
        exact PAIR_up ⟨A, t, K, Sh, V, W, hM, hD⟩ (by omega)
    · have := ref_pair (f := 2) hM hD (by decide)
      refine ⟨?_, ?_, this.2⟩
      · unfold uwA; rw [if_neg hp, if_neg (show ¬ (0 ≤ i ∧ i < pO (s.2 9 (s.1 16))) from hn)]
      · unfold uwN; rw [if_neg hp]
        exact this.1
  · refine unwrap_c hD.1.1 hT hM.1.2.1 hD.1.2.2.1 (KPs hM) (by omega) hr (fun hp => ?_) (fun hp q => absurd hg q) (fun _ e ha => ?_)
    · exfalso
      have := hg.2
      have := hg.1
      omega
    · have := act_pair hM hD hw (unwrap_aft hT hg) (unwrap_ac hM.1.2.2.1) (fun x hx => unwrap_in hT hg hx) ha
      refine ⟨?_, PAIR_up this.1 (by omega), this.2⟩
      unfold uwA
      rw [if_neg (by have := hg.1; have := hg.2; omega), if_pos (show 0 ≤ i ∧ i < pO (s.2 9 (s.1 16)) from hg)]
end
end
section
/-! Steps of the pair: undo, fill, shelve. -/
section
variable {iv : List (Int × Int)} {L : Nat} {h0 : MH} {A A' : Int → Nat} {c e : SC} {s s1 w v : SM} {t t' : Term} {n n' : Int} {K K' : List Snap} {Sh Sh' : Int → Option Snap} {V : Term} {W : List (Int × Int)} {ey ef : List Nat} {ys : List (Nat × Nat)} {rs : List Nat} {d d2 : Nat} {b i so z k f : Int}
theorem unY_w : NPY unY acR ∧ (∀ y, (11, y) ∉ unY) ∧ ∀ k : Nat, (k, 11) ∉ unY := ⟨⟨fun y => ⟨by unfold unY acY; simp, by unfold unY acY; simp⟩, ⟨by decide, by decide⟩, by decide, by decide, by decide, by decide⟩, fun y => by unfold unY acY; simp, fun k => by unfold unY acY; simp⟩
/-- over a change of the desk that is no act -/
theorem oth_pair (hM : MS n s t K Sh V W) (hD : DKc A c s t K Sh ∧ WKD A c s V ∧ DLK A c s t W) (hM' : MS n' w t K Sh' V W) (hx : CX ys rs c e) (hr : RMk 0 0 c e) (sx : SX ey ef s w) (np : NPY ys rs) (hy : (∀ y, (11, y) ∉ ys) ∧ ((12, 1) ∉ ys ∧ (12, 3) ∉ ys) ∧ (∀ k, (k, 11) ∉ ys) ∧ (∀ k, (k, 12) ∉ ys) ∧ (1, 15) ∉ ys) (hrs : 184 ∉ rs ∧ 185 ∉ rs) (hey : 8 ∉ ey ∧ 35 ∉ ey ∧ 56 ∉ ey ∧ 60 ∉ ey ∧ 61 ∉ ey) (hef : 9 ∉ ef ∧ 42 ∉ ef) (dk : DKc A e w t K Sh') : PAIR n' w e ∧ RQ c e := by
  obtain ⟨d1, d2, d3⟩ := hD
  have hX := d1.1.1.1
  have e8 := sx.1 8 (by decide) hey.1
  have hB := hM.1.1.1.2.2.2.2.1
  exact ⟨⟨A, t, K, Sh', V, W, hM', dk, WKD_x d2 hX hx np hy.1 (w183 hX hx hy.2.1 hrs) EXT.rf ⟨sx.1 56 (by decide) hey.2.2.1, sx.1 60 (by decide) hey.2.2.2.1, sx.1 61 (by decide) hey.2.2.2.2⟩ (fun b hb => sx.nod (Or.inl rfl) hef.1 (by omega)) (by omega), DLK_x d3 hX d1.1.1.2.1 hx hr hy.2.2 (mm hM) e8 (sx.1 35 (by decide) hey.2.1) (fun b _ _ => by rw [sx.row (f := 42) (by decide) hef.2 (by decide)])⟩, RQ_cx hX hx np hr (by decide) (by decide)⟩
theorem ps_undo (h : PAIR n s c) (hd : 400 ≤ d) (hd2 : 400 ≤ d2) : cm iv L h0 (d + 1) 101 [vr 307] s (qi fun r s' => ∀ h0', ck iv L h0' d2 21 [vr 64] c (qi (PQ (n + 1) c r s'))) := by
  obtain ⟨A, t, K, Sh, V, W, hM, hD⟩ := h
  have hT := hM.1.1
  have hB := hT.1.2.2.2.2.1
  refine undo_ok hM.2.2.1.1 hB (fun hk h0' => ?_) (fun K0 u v hk hx hS hKL h0' => ?_)
  · exact undo_c hD.1.1 hT hM.1.2.1 hD.1.2.2.1 (KPs hM) (by omega) (fun _ => ⟨rfl, PAIR_up ⟨A, t, K, Sh, V, W, hM, hD⟩ (by omega), RQ.rf⟩) (fun K1 u1 q => absurd (hk.symm.trans q) (by simp))
  · refine undo_c hD.1.1 hT hM.1.2.1 hD.1.2.2.1 (KPs hM) (by omega) (fun q => absurd (hk.symm.trans q) (by simp)) (fun K1 u1 q e ha => ?_)
    obtain ⟨q1, q2⟩ := List.append_inj' (hk.symm.trans q) rfl
    subst q1
    have q2 : u = u1 := by injection q2
    subst q2
    obtain ⟨d1, d2', d3⟩ := hD
    have hX := d1.1.1.1
    have hM' := MS_und hM hk hx hS hKL
    subst hk
    have hDK := DKc.und d1 hM.2.1.1 ha
    obtain ⟨-, u2, u3, -, u5, u6⟩ := ha
    have hKu : KP s u := KPs hM u (by simp)
    have hU := unS_aft hT.2.1 hKu hB
    have e8 : v.1 8 = s.1 8 := (hx.1 8 (by decide) (by decide)).trans rfl
    have nod : ∀ f, (f = 9 ∨ f = 10 ∨ f = 11) → ∀ x, x < s.1 8 → v.2 f x = (unS s u).2 f x := fun f hf x hx' => by
      rw [hx.nod (f := f) (by omega) (by simp; omega) (by omega)]
      show (undU s u).2 f x = (if f = 12 ∨ f = 13 ∨ f = 14 then u.2.2 f else (undU s u).2 f) x
      rw [if_neg (by omega)]
    have KIu : KIs (unS s u) := KIs_e hM.1.2.1 rfl ⟨unS_o (by decide), unS_o (by decide), unS_o (by decide), unS_o (by decide)⟩
    have r1 : R1 A e v u.1 := R1_cg hDK.1 hU.1 hS hU.2.1 KIu (by rw [e8]; rfl) ((hx.1 16 (by decide) (by decide)).trans rfl) ((hx.1 2 (by decide) (by decide)).trans rfl) (fun x x0 x1 => ⟨nod 9 (by omega) x x1, nod 10 (by omega) x x1, nod 11 (by omega) x x1⟩) (fun k k0 k1 => by
      have hk2 : (unS s u).1 2 = s.1 2 := rfl
      have hn := hM.1.2.1.1
      rw [unS_o (f := 4) (by decide), unS_o (f := 5) (by decide), unS_o (f := 6) (by decide), unS_o (f := 7) (by decide)]
      have hi : ∀ f, (f = 4 ∨ f = 5 ∨ f = 6 ∨ f = 7) → ¬ scI f k := fun f q => by unfold scI; omega
      have un : ∀ f, f ≠ 10 → (undU s u).2 f k = s.2 f k := fun f hf => by
        show (if f = 10 ∧ k ∈ fl u.1 then u.2.2 10 k else s.2 f k) = s.2 f k
        rw [if_neg (fun q => hf q.1)]
      rw [hx.2 4 (by decide) (by decide) k (hi 4 (by decide)), hx.2 5 (by decide) (by decide) k (hi 5 (by decide)), hx.2 6 (by decide) (by decide) k (hi 6 (by decide)), hx.2 7 (by decide) (by decide) k (hi 7 (by decide)), un 4 (by decide), un 5 (by decide), un 6 (by decide), un 7 (by decide)]
      exact ⟨rfl, rfl, rfl, rfl⟩)
    have un2 : ∀ f, f ≠ 10 → (undU s u).2 f = s.2 f := fun f hf => by
      funext k
      show (if f = 10 ∧ k ∈ fl u.1 then u.2.2 10 k else s.2 f k) = s.2 f k
      rw [if_neg (fun q => hf q.1)]
    have sb : SBX (unS s u) v := ⟨⟨(hx.1 71 (by decide) (by decide)).trans rfl, fun i _ _ => by rw [hx.row (f := 72) (by decide) (by decide) (by decide), unS_o (by decide), un2 72 (by decide)]⟩, (hx.1 0 (by decide) (by decide)).trans rfl, fun f _ _ => by rw [hx.row (f := 1) (by decide) (by decide) (by decide), unS_o (by decide), un2 1 (by decide)]⟩
    have hDK' : DKc A e v u.1 K0 Sh := ⟨r1, ⟨hDK.2.1.1.sb sb, hDK.2.1.2.1.sb sb, hDK.2.1.2.2⟩, hDK.2.2⟩
    have e35 : v.1 35 ≠ 0 := by
      rw [hx.1 35 (by decide) (by decide)]
      show (1 : Int) ≠ 0
      decide
    refine ⟨rfl, PAIR_up ⟨A, u.1, K0, Sh, V, W, hM', hDK', WKD_x d2' hX u2 unY_w.1 unY_w.2.1 (w183 hX u2 (by decide) acR_w.2) EXT.rf ⟨(hx.1 56 (by decide) (by decide)).trans rfl, (hx.1 60 (by decide) (by decide)).trans rfl, (hx.1 61 (by decide) (by decide)).trans rfl⟩ (fun b hb => by rw [nod 9 (by omega) b hb, unS_o (by decide)]) (by omega), DLK_und d3 d1.1.1.2.1 u2 u3 u5 e35 e8 u6⟩ (by omega), RQ_cx hX u2 unY_w.1 u3 (by decide) (by decide)⟩
theorem ps_shelve (h : PAIR n s c) (hd : 400 ≤ d) (hd2 : 400 ≤ d2) : cm iv L h0 d 113 [vr 307, vi z] s (qi fun r s' => ∀ h0', ck iv L h0' d2 19 [vr 64, vi z] c (qi (PQ (n + 1) c r s'))) := by
  obtain ⟨A, t, K, Sh, V, W, hM, hD⟩ := h
  have hT := hM.1.1
  have hX := hD.1.1.1.1
  refine shelve_ok hT.1 hT.2.1 hM.1.2.2.1 hT.2.2 hM.2.2.1.2 (by omega) (fun hp h0' => ?_) (fun hp w hx hS h0' => ?_)
  · exact shelve_c hD.1.1 hT hD.1.2.2.2 (by omega) (fun _ => ⟨rfl, PAIR_up ⟨A, t, K, Sh, V, W, hM, hD⟩ (by omega), RQ.rf⟩) (fun q => absurd q hp)
  · refine shelve_c hD.1.1 hT hD.1.2.2.2 (by omega) (fun q => absurd hp q) (fun _ e ha hx2 hr2 => ?_)
    have hM' : MS n w t K (shP Sh z (sq (s.1 16) t, s)) V W := MS_g hM hx (by decide) (by decide) (hT.x hx (by decide) (by decide)) (KIs_x hM.1.2.1 hx (by decide) (by decide)) (BX_x hM.2.1.1 hx (by decide) (by decide) (by rw [hx.1 8 (by decide) (by decide)]; exact Int.le_refl _)) (hM.2.1.2.x hx (by decide)) hS
    have hDK := DKc.shl hD.1 hT.1 hM.2.1.1 (KPs hM) hx2 ha
    have sb := SBX_x hx (by decide) (by decide)
    have r1 := R1_sx hDK.1 hT.1 hM'.1.1.1 hT.2.1 hM.1.2.1 hx (by decide) (by decide)
    have np : NPY shY shR := ⟨fun y => ⟨by unfold shY; simp, by unfold shY; simp⟩, ⟨by decide, by decide⟩, by decide, by decide, by decide, by decide⟩
    have := oth_pair hM hD hM' hx2 hr2 hx np ⟨fun y => by unfold shY; simp, ⟨by decide, by decide⟩, fun k => by unfold shY; simp, fun k => by unfold shY; simp, by decide⟩ ⟨by decide, by decide⟩ (by decide) (by decide) ⟨r1, ⟨hDK.2.1.1.sb sb, hDK.2.1.2.1.sb sb, hDK.2.1.2.2⟩, hDK.2.2⟩
    exact ⟨rfl, PAIR_up this.1 (by omega), this.2⟩
end
end
section
/-! The reason of a name is told of names alone. -/
def Q1 (so : Int → Int) (J : JT) : Prop := ∀ x, J.2.2 x = 1 → so x = 3
theorem q_jsr {so : Int → Int} {J : JT} {b z : Int} (h : Q1 so J) (hz : z ≠ 1) : Q1 so (jsr J b z) := fun x hx => by
  have hx : (if x = b then z else J.2.2 x) = 1 := hx
  by_cases e : x = b
  · rw [if_pos e] at hx; exact absurd hx hz
  · rw [if_neg e] at hx; exact h x hx
theorem q_jsn {so : Int → Int} {J : JT} {b z : Int} (h : Q1 so J) (hz : z ≠ 1) : Q1 so (jsn J b z) := by
  unfold jsn
  split
  · exact q_jsr h hz
  · exact h
theorem q_jin {so : Int → Int} {J : JT} {b : Int} {A : Option Term} (h : Q1 so J) : Q1 so (jin b A J) := fun x hx => by
  have hx : (if x = b then (0 : Int) else J.2.2 x) = 1 := hx
  by_cases e : x = b
  · rw [if_pos e] at hx; cases hx
  · rw [if_neg e] at hx; exact h x hx
theorem q_jen {so : Int → Int} {M : JT × Term} {sb b : Int} {A : Option Term} (h : Q1 so M.1) : Q1 so (jen sb b A M).1 := by
  show Q1 so (jcl sb b A M.2 (jmd b M.2 M.1))
  have h0 : Q1 so (jmd b M.2 M.1) := h
  cases A with
  | none => exact h0
  | some a =>
    by_cases e : (jmd b M.2 M.1).2.2 b = 0 ∧ sb ≠ 10 ∧ sb ≠ 11 ∧ kmt a M.2 = false
    · rw [jcl_y e]; exact q_jsr h0 (by decide)
    · rw [jcl_z e]; exact h0
def QJ1 (so : Int → Int) (r : JF) : Prop := ∀ A J, Q1 so J → Q1 so (r A J).1
theorem q_jdf {so : Int → Int} {r0 : JF} {b : Int} {k : Term} {A : Option Term} {J : JT} (h : QJ1 so r0) (hJ : Q1 so J) : Q1 so (jdf r0 b k A J).1 := by
  unfold jdf
  split
  · refine q_jsr (h _ _ hJ) ?_
    split <;> decide
  · exact h _ _ hJ
theorem q_jus {so : Int → Int} {r0 r1 : JF} {p : Int} {J : JT} (h : QJ1 so r0) (h1 : QJ1 so r1) (hJ : Q1 so J) : Q1 so (jus r0 r1 p J).1 := by
  unfold jus
  split
  · exact h1 _ _ (h _ _ hJ)
  · exact h1 _ _ (h _ _ hJ)
  · exact h1 _ _ (q_jsn (h _ _ hJ) (by decide))
theorem q_jpk {so : Int → Int} {r0 r1 r2 : JF} {b : Int} {A : Option Term} {J : JT} (h : QJ1 so r0) (h1 : QJ1 so r1) (h2 : QJ1 so r2) (hJ : Q1 so J) : Q1 so (jpk r0 r1 r2 b A J).1 := by
  unfold jpk
  split
  · exact h2 _ _ (h1 _ _ (h _ _ hJ))
  · split
    · exact h2 _ _ (h1 _ _ (h _ _ hJ))
    · exact q_jsr (h2 _ _ (h1 _ _ (h _ _ hJ))) (by decide)
theorem q_jpr {so : Int → Int} {r0 r1 : JF} {A : Option Term} {J : JT} (h : QJ1 so r0) (h1 : QJ1 so r1) (hJ : Q1 so J) : Q1 so (jpr r0 r1 A J).1 := by
  unfold jpr
  split
  · exact h1 _ _ (h _ _ hJ)
  · exact h1 _ _ (h _ _ hJ)
theorem q_jhf {so : Int → Int} {r0 : JF} {p sb : Int} {J : JT} (h : QJ1 so r0) (hJ : Q1 so J) : Q1 so (jhf r0 p sb J).1 := by
  unfold jhf
  split
  · exact h _ _ hJ
  · exact h _ _ hJ
  · exact q_jsn (h _ _ hJ) (by decide)
theorem pO_0 {z : Int} (h0 : 0 ≤ z) (h1 : z < 16) (h : pO z = 0) : z ≤ 3 := by
  rcases (show z = 0 ∨ z = 1 ∨ z = 2 ∨ z = 3 ∨ z = 4 ∨ z = 5 ∨ z = 6 ∨ z = 7 ∨ z = 8 ∨ z = 9 ∨ z = 10 ∨ z = 11 ∨ z = 12 ∨ z = 13 ∨ z = 14 ∨ z = 15 by omega) with e | e | e | e | e | e | e | e | e | e | e | e | e | e | e | e <;> rw [e] at h ⊢ <;> first | decide | (exact absurd h (by decide))
theorem jd_one {so nu td pa up pl : Int → Int} {kk : Int → Term} {bd : Int → Int → Int} {B : Int} : ∀ (n : Nat) (t : Term), SizeOf.sizeOf t < n → AT so pa up pl B t → full so t → QJ1 so (jd so nu td pa kk bd t) := by
  intro n
  induction n with
  | zero => intro t h; omega
  | succ n ih =>
    intro t hn hA hf A J hJ
    cases t with
    | index b =>
      have h3 : so b ≤ 3 := pO_0 hA.2.1 hA.2.2 hf.symm
      have h0 := hA.2.1
      rw [jd_0]
      refine q_jen ?_
      by_cases e0 : so b = 0
      · rw [if_pos e0]; exact q_jin hJ
      · rw [if_neg e0]
        by_cases e1 : so b = 1
        · rw [if_pos e1]; exact q_jin hJ
        · rw [if_neg e1]
          by_cases e2 : so b = 2
          · rw [if_pos e2]; exact q_jin hJ
          · rw [if_neg e2]
            unfold jnm
            split
            · intro x hx
              have hx : (if x = (b : Int) then (1 : Int) else (jin b A J).2.2 x) = 1 := hx
              by_cases e : x = b
              · rw [e]; omega
              · rw [if_neg e] at hx
                exact q_jin hJ x hx
            · split
              · exact q_jin hJ
              · exact q_jin hJ
    | add t1 y =>
      simp only [Term.add.sizeOf_spec] at hn
      have qy := ih y (by omega) hA.2.1 hA.2.2.1
      cases t1 with
      | index b =>
        rw [jd_1]
        refine q_jen ?_
        split
        · exact q_jdf qy (q_jin hJ)
        · split
          · exact qy _ _ (q_jin hJ)
          · exact q_jhf qy (q_jin hJ)
      | add t2 x =>
        simp only [Term.add.sizeOf_spec] at hn
        have qx := ih x (by omega) hA.1.2.1 hA.1.2.2.1
        cases t2 with
        | index b =>
          rw [jd_2]
          refine q_jen ?_
          split
          · exact q_jus qx qy (q_jin hJ)
          · split
            · exact qy _ _ (qx _ _ (q_jin hJ))
            · split
              · exact q_jpr qx qy (q_jin hJ)
              · exact qy _ _ (qx _ _ (q_jin hJ))
        | add t3 z =>
          simp only [Term.add.sizeOf_spec] at hn
          have qz := ih z (by omega) hA.1.1.2.1 hA.1.1.2.2.1
          cases t3 with
          | index b =>
            rw [jd_3]
            exact q_jen (q_jpk qz qx qy (q_jin hJ))
          | add t4 w =>
            exfalso
            have h1 := hA.2.2.2.1
            have h2 := na_ge t4
            have h3 : na (Term.add (.add (.add t4 w) z) x) = na t4 + 1 + 1 + 1 := rfl
            have h4 := pO_in (so (hd (Term.add (.add (.add t4 w) z) x)))
            omega
          | _ => exact hA.1.1.1.elim
        | _ => exact hA.1.1.elim
      | _ => exact hA.1.elim
    | _ => exact hA.elim
theorem jdg_one {s : SM} {t : Term} (hS : SHT s t) {x : Int} (h : (jdg s t).2.2 x = 1) : s.2 9 x = 3 :=
  jd_one (SizeOf.sizeOf t + 1) t (Nat.lt_succ_self _) hS.1 hS.2.1 none J0 (fun x hx => by cases hx) x h
end
section
/-! Steps of the pair: work, resume. -/
section
variable {iv : List (Int × Int)} {L : Nat} {h0 : MH} {A A' : Int → Nat} {c e : SC} {s s1 w v σ : SM} {t t' : Term} {n n' : Int} {K K' : List Snap} {Sh Sh' : Int → Option Snap} {V : Term} {W : List (Int × Int)} {ey ef : List Nat} {ys : List (Nat × Nat)} {rs : List Nat} {d d2 p q r : Nat} {b i so z k f hf : Int} {R : RS}
theorem dgr_of (hM : MS n s t K Sh V W) (hD : DKc A c s t K Sh) (hz : 0 ≤ z ∧ z ≤ 300) (hh : hf = 0 ∨ hf = 1) (hσ : BGW s t z hf σ) : DGR A c σ t ∧ (jdg σ t = jdg s t) ∧ σ.2 9 = s.2 9 ∧ σ.1 8 = s.1 8 := by
  have hT := hM.1.1
  obtain ⟨⟨x1, x2, x3⟩, -⟩ := BGW_X hT hM.2.2.2.1.1 hz hh hσ
  obtain ⟨b1, b2, b3, b4, -⟩ := hσ
  have ej : jdg σ t = jdg s t := jdg_x hT.1 x1 hT.2.1 hM.1.2.1 b2 (by decide) (by decide)
  have e9 : σ.2 9 = s.2 9 := b1.2 9 (by decide)
  refine ⟨⟨⟨R1_sx hD.1 hT.1 x1 hT.2.1 hM.1.2.1 b2 (by decide) (by decide), x1, x2, x3⟩, fun b hb => ?_⟩, ej, e9, b1.1 8 (by decide)⟩
  rw [ej, b4 b hb, e9]
  exact ⟨rfl, fun h => jdg_one hT.1 h⟩
theorem jdg_nn (hD : R1 A c s t) : ∀ x, x ∈ fl t → 0 ≤ (jdg s t).2.2 x ∧ fI c (A x) 10 = (jdg s t).2.2 x := fun x hx => by
  obtain ⟨-, -, -, -, -, hJx⟩ := hD
  obtain ⟨-, -, g1, g2, g3⟩ := hJx x hx
  exact ⟨g2, g1⟩
theorem wq_w : NPY [] [] := NPY_0
/-- behind a working, on both sides -/
theorem wk_pair (hM : MS n s t K Sh V W) (hD : DKc A c s t K Sh ∧ WKD A c s V ∧ DLK A c s t W) (hz : 0 ≤ z ∧ z ≤ 300) (hh : hf = 0 ∨ hf = 1) (hσ : BGW s t z hf σ) (hR : R.2.1 = 0 ∨ 2 ≤ R.2.1) (hw : WDN s t R hf v) (hk : WKP A c e σ t p q R r) : PAIR n v e ∧ RQ c e := by
  obtain ⟨d1, d2, d3⟩ := hD
  have hX := d1.1.1.1
  have h353 := hX.2.2.1
  have hT := hM.1.1
  obtain ⟨hG, ej, e9, e8⟩ := dgr_of hM d1 hz hh hσ
  have hj := jdg_nn d1.1
  have hM' := MS_wdn hM hw hR (fun x hx => (hj x hx).1)
  obtain ⟨⟨k1, k2⟩, ⟨k3, k4⟩, ⟨k5, k6, k7, k8⟩, ⟨k9, k10⟩, k11, k12, k13⟩ := hk
  obtain ⟨wx, ⟨w1, w2, w3, w4, w5⟩, ⟨w6, w7⟩, -⟩ := id hw
  have b2 := hσ.2.1
  have hB := hT.1.2.2.2.2.1
  have xσ : SX [35, 52, 54, 55, 56, 57, 58, 59, 60, 61, 62, 63] [42, 46, 47, 48, 49, 50, 51, 53, 64, 65] σ v := (b2.sy.up (by decide) (by decide)).tr wx
  have v8 : v.1 8 = s.1 8 := wx.1 8 (by decide) (by decide)
  have v9 : ∀ b : Nat, (b : Int) < s.1 8 → v.2 9 b = s.2 9 b := fun b hb => wx.nod (Or.inl rfl) (by decide) (by omega)
  have KIσ : KIs σ := KIs_x hM.1.2.1 b2 (by decide) (by decide)
  have r1 : R1 A e v t := R1_sx k3 hG.1.2.1 hM'.1.1.1 hG.1.2.2.1 KIσ xσ (by decide) (by decide)
  have sb := SBX_x wx (by decide) (by decide)
  have dk : DKc A e v t K Sh := ⟨r1, ⟨(d1.2.1.1.x hX k1 (by decide) (by decide)).sb sb, (d1.2.1.2.1.x hX k1 (by decide) (by decide)).sb sb, d1.2.1.2.2.x hX k1 (by decide) (fun a ha => by
    have : wqR.all (fun a => decide (a < 194)) = true := by decide
    exact Or.inl (of_decide_eq_true (List.all_eq_true.mp this a ha)))⟩, d1.2.2.1.x hX EXT.rf hB.1 (KPs hM) k1 (by decide) (by decide), d1.2.2.2.x hX k1 (by decide) (fun a ha => by
    have : wqR.all (fun a => decide (a < 194)) = true := by decide
    have := of_decide_eq_true (List.all_eq_true.mp this a ha)
    omega)⟩
  have hv : hasV v ↔ R.2.1 = 0 := by
    unfold hasV
    rw [w5]
    unfold outE
    by_cases g : R.2.1 = 0
    · rw [if_pos g]
      refine ⟨fun _ => g, fun _ => ?_⟩
      cases hsL R.2.2.2 <;> simp
    · rw [if_neg g]
      omega
  have wk : WKD A e v R.2.2.2 := ⟨q, p, k4, ⟨fun h => by
    have g := hv.mp h
    obtain ⟨g1, g2, g3⟩ := k9 g
    rw [k7, wrt_cg (s := σ) g2.2.1 (fun b hb => by rw [v9 b (by omega), e9])]
    exact ⟨g1, ⟨g2.1, ⟨g2.2.1.1, VB_up (by omega) _ _ (Nat.lt_succ_self _) g2.2.1.2⟩, g2.2.2⟩, g3⟩, fun h => by rw [k7]; exact k10 (fun g => h (hv.mpr g))⟩, ⟨by rw [k5, w3], by rw [k6, w4]⟩, by
    rw [k8, w5, if_neg (by unfold outE; split; split <;> decide; omega)]⟩
  have lt : ∀ b, 0 ≤ b → b < s.1 8 → A b < nxt c ∧ kl c (A b) = 5 ∧ (A b = 73 ∨ 353 ≤ A b) := fun b b0 b1 => by
    obtain ⟨⟨n1, -⟩, n9, n10⟩ := d1.1.1.2.1.2 b b0 b1
    exact ⟨by omega, n1, n10⟩
  have y12 : ∀ k : Nat, (k, 12) ∉ wqY := fun k => by unfold wqY wzY wkY nqY; simp
  obtain ⟨l1, l2, l3, l4⟩ := d3
  have hQ : QN A e v := fun a ha hka => by
    by_cases z : a < nxt c
    · have k5' : kl c a = 5 := by rw [← k1.k z]; exact hka
      rcases l2 a z k5' with ⟨z1, z2⟩ | ⟨b, z1, z2, z3⟩
      · by_cases zn : ∃ x, x ∈ fl t ∧ a = A x
        · obtain ⟨x, y1, y2⟩ := zn
          have := mm hM x y1
          exact Or.inr ⟨x, this.1, by omega, y2⟩
        · exact Or.inl ⟨(k1.r z (y12 _)).trans z1, (k13 a z (fun x y1 y2 => zn ⟨x, y1, y2⟩)).trans z2⟩
      · exact Or.inr ⟨b, z1, by omega, z3⟩
    · exact absurd hka (k2.2.2.2 a (by omega) ha)
  have lk : DLK A e v t (wrL s t) := by
    refine ⟨⟨fun _ => w1, fun _ => k11⟩, hQ, fun b hb => ?_, fun _ => ⟨fun b b0 b1 hb => ?_, fun b hb => ?_⟩⟩
    · have := mm hM b hb
      rw [k1.r (lt b this.1 this.2).1 (y12 _)]
      exact l3 b hb
    · rw [w6 b b0 (by omega)] at hb
      omega
    · rw [k12 b hb, ej]
      unfold wrL
      exact (thW_map.1 hb).symm
  exact ⟨⟨A, t, K, Sh, R.2.2.2, wrL s t, hM', dk, wk, lk⟩, RQ_mp k2⟩
theorem ps_work (h : PAIR n s c) (hdd : 400 ≤ d) (hd2 : 400 ≤ d2) : cm iv L h0 d 136 [vr 307, vi z] s (qi fun r s' => ∀ h0', ck iv L h0' d2 24 [vr 64, vi z] c (qi (PQ (n + 1) c r s'))) := by
  obtain ⟨A, t, K, Sh, V, W, hM, hD⟩ := h
  have hT := hM.1.1
  obtain ⟨p, q, hp, -⟩ := hD.2.1
  obtain ⟨d2, rfl⟩ : ∃ k, d2 = k + 1 := ⟨d2 - 1, by omega⟩
  refine work_ok hT hM.1.2.1 hM.2.2.2.1.1 (by omega) (fun hz h0' => ?_) (fun σ v hz hσ hw h0' => ?_)
  · exact dwork_no hz ⟨rfl, PAIR_up ⟨A, t, K, Sh, V, W, hM, hD⟩ (by omega), RQ.rf⟩
  · obtain ⟨hG, ej, e9, e8⟩ := dgr_of hM hD.1 hz (Or.inl rfl) hσ
    have e15 : s.1 15 = hd t := hT.1.2.2.2.2.2.1.symm
    rw [e15] at hw ⊢
    have hTσ := hG.1.2.1
    have top : hd t ∈ fl t := by
      have := top_mem hT.1
      rwa [e15] at this
    have bT : ∀ x, bds σ (hd t) x = -9 := fun x => by
      show bnd (σ.2 9) (σ.2 10) (σ.2 12) (σ.2 13) 70 (hd t) x = -9
      unfold bnd
      rw [if_pos hTσ.2.2.2.2.2.2.1]
    have cv : cov σ (hd t) (nulE 26) := fun x _ _ hx => absurd (bT x) hx
    have hRO := evw_okw hTσ hG.1.2.2.1 hG.1.2.2.2 z 60 (hd t) (nulE 26) 0 top (nulE_is 26) (nulE_VG 26) cv hz.1
    refine dwork_c hG hp hz (by omega) (fun e r hk => ?_)
    have := wk_pair hM hD hz (Or.inl rfl) hσ (hRO.2.1.elim Or.inl (fun g => Or.inr g.1)) hw hk
    exact ⟨rfl, PAIR_up this.1 (by omega), this.2⟩
theorem ar_th (hW : wfW s W) (hD : DLK A c s t W) (h35 : s.1 35 = 0) : thn A c s t = 0 ↔ arS s t W = true := by
  obtain ⟨-, -, -, h4⟩ := hD
  have h4 := (h4 h35).2
  have key : (∀ x, x ∈ fl t → ¬ (fI c (A x) 11 ≠ -9 ∧ fI c (A x) 11 ≠ (jdg s t).2.2 x)) ↔ arS s t W = true := by
    unfold arS arP
    rw [List.all_eq_true]
    refine ⟨fun h a ha => List.all_eq_true.mpr (fun x hx => decide_eq_true (fun e => ?_)), fun h x hx q => ?_⟩
    · have g := hW a ha
      have h' := h x hx
      rw [h4 x hx, e, g.1] at h'
      rw [e]
      omega
    · rw [h4 x hx] at q
      by_cases z : ∃ a, a ∈ W ∧ a.1 = x
      · obtain ⟨a, ha, e⟩ := z
        have := of_decide_eq_true (List.all_eq_true.mp (h a ha) x hx) e.symm
        rw [← e, (hW a ha).1, e] at q
        omega
      · exact q.1 (thW_no (fun a ha e => z ⟨a, ha, e⟩))
  rw [← key]
  unfold thn
  constructor
  · intro h x hx q
    rw [if_pos (List.any_eq_true.mpr ⟨x, hx, decide_eq_true q⟩)] at h
    omega
  · intro h
    rw [if_neg]
    intro g
    obtain ⟨x, hx, q⟩ := List.any_eq_true.mp g
    exact h x hx (of_decide_eq_true q)
theorem ps_resume (h : PAIR n s c) (hdd : 400 ≤ d) (hd2 : 400 ≤ d2) : cm iv L h0 d 138 [vr 307, vi z] s (qi fun r s' => ∀ h0', ck iv L h0' d2 25 [vr 64, vi z] c (qi (PQ (n + 1) c r s'))) := by
  have hP := h
  obtain ⟨A, t, K, Sh, V, W, hM, hD⟩ := h
  have hT := hM.1.1
  have hR1 := hD.1.1
  have hV := hM.2.2.2.2.1.2
  have hWf := hM.2.2.2.2.2.2
  obtain ⟨p, q, hp, ⟨v1, v2⟩, -⟩ := hD.2.1
  obtain ⟨d2, rfl⟩ : ∃ k, d2 = k + 1 := ⟨d2 - 1, by omega⟩
  have i15 := hD.2.2.1
  refine resume_ok hT hM.1.2.1 hM.2.2.2.1.1 (by omega) hM.2.2.2.2.2.1 hV (fun hz h0' => ?_) (fun hz hq h0' => ?_) (fun w hz hq ha hw h0' => ?_) (fun σ v hz hq ha hσ hw h0' => ?_)
  · exact dres_no hz ⟨rfl, PAIR_up hP (by omega), RQ.rf⟩
  · refine dres_4 hR1 hT.1 hz ?_ ⟨rfl, PAIR_up hP (by omega), RQ.rf⟩
    by_cases g : hasV s
    · exact Or.inr (Or.inl (fun w => hq ⟨g, i15.1 w⟩))
    · exact Or.inl (v2 g)
  · refine dres_4 hR1 hT.1 hz (Or.inr (Or.inr (fun w => ?_))) ⟨rfl, PAIR_up (PAIR_sx hP hw.2.1) (by omega), RQ.rf⟩
    rw [(ar_th hWf hD.2.2 hq.2).1 w] at ha
    cases ha
  · obtain ⟨hB, hVH, hO, hN⟩ := hV hq.1 hq.2
    have hh : 1 - s.1 55 = 0 ∨ 1 - s.1 55 = 1 := by have := hB.1; omega
    obtain ⟨hG, ej, e9, e8⟩ := dgr_of hM hD.1 hz hh hσ
    have hE := hσ.1
    have e42 : σ.2 42 = s.2 42 := hE.2 42 (by decide)
    have hTσ := hG.1.2.1
    have hNσ : FN σ t := fun y hy hs => by
      rw [e42]
      exact hN y hy (by rw [← e9]; exact hs)
    have hOσ : VO σ t V := by
      show VG σ t (tgt σ t) V
      rw [tgt_e e42]
      exact VG_e e8 e9 (hE.2 10 (by decide)) (hE.2 12 (by decide)) (hE.2 13 (by decide)) hO
    have hRO := (evw_ok hTσ hG.1.2.2.1 hG.1.2.2.2 hNσ z 60).2 V 0 hVH.1 hOσ hz.1
    have hth : thn A c σ t = 0 := by
      unfold thn
      rw [ej]
      exact (ar_th hWf hD.2.2 hq.2).2 ha
    obtain ⟨g1, ⟨⟨g2, -⟩, -, g3⟩, -⟩ := v1 hq.1
    have hL : FLK A c σ t := by
      obtain ⟨-, -, l3, l4⟩ := hD.2.2
      refine ⟨fun b b0 b1 hb => ?_, fun b b0 b1 => ?_, l3⟩
      · rw [e42] at hb ⊢
        exact (l4 hq.2).1 b b0 (by omega) hb
      · rw [e42, e8]
        exact hM.2.2.2.1.1 b b0 (by omega)
    refine dres_c hG hp hz (by omega) hNσ hL (i15.2 hq.2) hth ⟨rfl, g1⟩ ⟨hVH.1, hOσ⟩ g3 (fun e r hk => ?_)
    have := wk_pair hM hD hz hh hσ (hRO.2.1.elim Or.inl (fun g => Or.inr g.1)) hw hk
    exact ⟨rfl, PAIR_up this.1 (by omega), this.2⟩
end
end
section
/-! A step of the pair: fill. -/
section
variable {iv : List (Int × Int)} {L : Nat} {h0 : MH} {A A' : Int → Nat} {c e : SC} {s w v : SM} {t t' : Term} {n : Int} {K K' : List Snap} {Sh : Int → Option Snap} {V : Term} {W : List (Int × Int)} {d d2 : Nat} {z : Int} {u : Snap}
theorem fil_pair (hM : MS n s t K Sh V W) (hD : DKc A c s t K Sh ∧ WKD A c s V ∧ DLK A c s t W) (hq : filF s t Sh z = 0) (hSp : Sh z = some u) (hF : FDONE s t K u v) (ha : FIL A c s t K u e) : PAIR n v e ∧ RQ c e := by
  obtain ⟨d1, d2', d3⟩ := hD
  have hT := hM.1.1
  have hX := d1.1.1.1
  have hB := hT.1.2.2.2.2.1
  obtain ⟨z0, z1, z2⟩ : (0 ≤ z ∧ z < 6) ∧ s.2 9 (s.1 16) = 0 ∧ ((fl t).length - 1 + (fl u.1).length ≤ 60 ∧ s.1 8 + (fl u.1).length ≤ 3000) := by
    have fn : filN s Sh z = (fl u.1).length := by unfold filN; rw [hSp]
    unfold filF at hq
    rw [fn] at hq
    split at hq
    · rename_i q1
      split at hq
      · rename_i q2
        split at hq
        · cases hq
        · split at hq
          · cases hq
          · exact ⟨q1, q2, by omega⟩
      · cases hq
    · cases hq
  obtain ⟨s1, s2⟩ := hM.2.2.1.2 z z0.1 z0.2
  obtain ⟨b1, b2, b3⟩ := s2 u hSp
  have hpos := List.length_pos_of_mem (hd_mem _ b2.1)
  have hbear : ∀ x, x ∈ fl u.1 → bearOk (s.1 2) (u.2.2 9 x) (u.2.2 10 x) (u.2.2 11 x) := fun x hx => by
    obtain ⟨k, hk1, hk2⟩ := List.mem_iff_getElem.mp hx
    exact (b3 k x (by rw [List.getElem?_eq_getElem hk1, hk2])).2
  obtain ⟨A', st, g1, g2, g3, g4, g5, g6, g7, g8, g9⟩ := DKc.fil d1 hT hM.2.1.1 ha
  have hAf := fil_aft g2 hT b2 hbear z2
  obtain ⟨⟨v8, v16, v2⟩, vo, vn⟩ := fil_old g2 hT
  have hM' := MS_fil hM z0 hSp z1 hF
  obtain ⟨hx, ⟨w1, w2, w3⟩, w4, w5, w6, w7, w8, w9, w10, w11⟩ := hF
  have fr : ∀ f, f ≠ 9 ∧ f ≠ 10 ∧ f ≠ 11 ∧ f ≠ 12 ∧ f ≠ 13 ∧ f ≠ 14 → (filV s st).2 f = s.2 f := fun f hf => by
    rw [filV_o ⟨hf.2.2.2.1, hf.2.2.2.2.1, hf.2.2.2.2.2⟩]
    exact g2.2.1.2 f (by simp; omega)
  have KIf : KIs (filV s st) := KIs_e hM.1.2.1 v2 ⟨fr 4 (by decide), fr 5 (by decide), fr 6 (by decide), fr 7 (by decide)⟩
  have r1 : R1 A' e v (filT s t u) := R1_cg g1.1 hAf.1 w8.1 hAf.2.1 KIf (w1.trans v8.symm) (w2.trans v16.symm) ((hx.1 2 (by decide) (by decide)).trans v2.symm) (fun x x0 x1 => by
    by_cases q : x < s.1 8
    · obtain ⟨p1, p2, p3⟩ := w4 x q
      obtain ⟨q1, q2, q3⟩ := vo x q
      rw [p1, p2, p3, q1, q2, q3]
      exact ⟨rfl, rfl, rfl⟩
    · obtain ⟨j, hj⟩ : ∃ j : Nat, x = s.1 8 + j := ⟨(x - s.1 8).toNat, by omega⟩
      have hg := List.getElem?_eq_getElem (show j < (fl u.1).length by omega)
      obtain ⟨p1, p2, p3⟩ := w5 j _ hg
      obtain ⟨q1, q2, q3⟩ := vn j _ hg
      rw [hj, p1, p2, p3, q1, q2, q3]
      exact ⟨rfl, rfl, rfl⟩) (fun k k0 k1 => by
    have hn := hM.1.2.1.1
    have hi : ∀ f, (f = 4 ∨ f = 5 ∨ f = 6 ∨ f = 7) → ¬ scI f k := fun f q => by unfold scI; omega
    rw [hx.2 4 (by decide) (by decide) k (hi 4 (by decide)), hx.2 5 (by decide) (by decide) k (hi 5 (by decide)), hx.2 6 (by decide) (by decide) k (hi 6 (by decide)), hx.2 7 (by decide) (by decide) k (hi 7 (by decide)), fr 4 (by decide), fr 5 (by decide), fr 6 (by decide), fr 7 (by decide)]
    exact ⟨rfl, rfl, rfl, rfl⟩)
  have e71 : (filV s st).1 71 = s.1 71 := (replU_e.1 71 (by decide)).trans (g2.2.1.1 71 (by decide))
  have e0 : (filV s st).1 0 = s.1 0 := (replU_e.1 0 (by decide)).trans (g2.2.1.1 0 (by decide))
  have sb : SBX (filV s st) v := ⟨⟨(hx.1 71 (by decide) (by decide)).trans e71.symm, fun i _ _ => by rw [hx.row (f := 72) (by decide) (by decide) (by decide), fr 72 (by decide)]⟩, (hx.1 0 (by decide) (by decide)).trans e0.symm, fun f _ _ => by rw [hx.row (f := 1) (by decide) (by decide) (by decide), fr 1 (by decide)]⟩
  have dk : DKc A' e v (filT s t u) (push K (t, s)) Sh := ⟨r1, ⟨g1.2.1.1.sb sb, g1.2.1.2.1.sb sb, g1.2.1.2.2⟩, g1.2.2⟩
  have h35 : v.1 35 = 0 ↔ s.1 35 = 0 := by
    rw [w3]
    unfold chg
    by_cases q : s.1 35 = 0
    · rw [if_neg (fun w => w q), if_pos (by decide)]; exact ⟨fun _ => q, fun _ => rfl⟩
    · rw [if_pos q]; exact ⟨fun w => absurd w (by decide), fun w => absurd w q⟩
  have mem := fil_mem hT.1 hT.2.2 z1 b2.1
  refine ⟨⟨A', filT s t u, push K (t, s), Sh, V, W, hM', dk, WKD_x d2' hX g5 unY_w.1 unY_w.2.1 (w183 hX g5 (by decide) acR_w.2) g3 ⟨hx.1 56 (by decide) (by decide), hx.1 60 (by decide) (by decide), hx.1 61 (by decide) (by decide)⟩ (fun b hb => (w4 b hb).1) (by omega), DLK_fil d3 hX d1.1.1.2.1 r1.1.2.1 g3 g5 g6 ⟨by omega, by omega⟩ g7 h35 (mm hM) hT.2.2 (fun x hx' => ?_) g8 g9 w6 hM.2.2.2.1.1 hM.2.2.2.1.2 (by omega) hM.2.2.2.2.2.2⟩, RQ_cx hX g5 unY_w.1 g4 (by decide) (by decide)⟩
  rcases (mem x).mp hx' with q | q
  · exact ⟨by have := mm hM x q.1; omega, Or.inl q⟩
  · exact ⟨by omega, Or.inr q.1⟩
theorem ps_fill (h : PAIR n s c) (hn : n ≤ 512) (hdd : 400 ≤ d) (hd2 : 400 ≤ d2) : cm iv L h0 d 115 [vr 307, vi z] s (qi fun r s' => ∀ h0', ck iv L h0' d2 20 [vr 64, vi z] c (qi (PQ (n + 1) c r s'))) := by
  have hP := h
  obtain ⟨A, t, K, Sh, V, W, hM, hD⟩ := h
  have hT := hM.1.1
  have hr := fnd_b (f := 1) hM hD.1 hn (by decide)
  have go : ∀ (k : Nat) (F : Int → SC → Prop) (h0' : MH), filF s t Sh z = k → (k = 1 → F (-1) c) → (k = 2 → F (-4) c) → (k = 3 → F (-3) (refC c 1)) → (k = 4 → F (-2) c) → (k = 0 → ∀ u, Sh z = some u → ∀ e, FIL A c s t K u e → F (s.1 8) e) → ck iv L h0' d2 20 [vr 64, vi z] c (qi F) := fun k F h0' e f1 f2 f3 f4 f0 => fill_c hD.1.1 hT hM.1.2.1 hD.1.2.2.1 (KPs hM) hD.1.2.2.2 hM.2.2.1.2 hr (by omega) (fun q => f1 (e.symm.trans q)) (fun q => f2 (e.symm.trans q)) (fun q => f3 (e.symm.trans q)) (fun q => f4 (e.symm.trans q)) (fun u q hu e' ha => f0 (e.symm.trans q) u hu e' ha)
  refine fill_ok hT hM.2.1.2 (by omega) hM.2.2.1.2 hM.2.2.1.1 (by omega) (fun q h0' => ?_) (fun q h0' => ?_) (fun q h0' => ?_) (fun w q hx h0' => ?_) (fun u v q hSp hF h0' => ?_)
  · exact go 1 _ h0' q (fun _ => ⟨rfl, PAIR_up hP (by omega), RQ.rf⟩) (fun w => absurd w (by decide)) (fun w => absurd w (by decide)) (fun w => absurd w (by decide)) (fun w => absurd w (by decide))
  · exact go 2 _ h0' q (fun w => absurd w (by decide)) (fun _ => ⟨rfl, PAIR_up hP (by omega), RQ.rf⟩) (fun w => absurd w (by decide)) (fun w => absurd w (by decide)) (fun w => absurd w (by decide))
  · have := ref_pair (f := 1) hM hD (by decide)
    exact go 3 _ h0' q (fun w => absurd w (by decide)) (fun w => absurd w (by decide)) (fun _ => ⟨rfl, this.1, this.2⟩) (fun w => absurd w (by decide)) (fun w => absurd w (by decide))
  · exact go 4 _ h0' q (fun w => absurd w (by decide)) (fun w => absurd w (by decide)) (fun w => absurd w (by decide)) (fun _ => ⟨rfl, PAIR_up (PAIR_sx hP hx) (by omega), RQ.rf⟩) (fun w => absurd w (by decide))
  · refine go 0 _ h0' q (fun w => absurd w (by decide)) (fun w => absurd w (by decide)) (fun w => absurd w (by decide)) (fun w => absurd w (by decide)) (fun _ u' hu ec ha => ?_)
    obtain rfl : u = u' := by rw [hSp] at hu; injection hu
    have := fil_pair hM hD q hSp hF ha
    exact ⟨rfl, PAIR_up this.1 (by omega), this.2⟩
end
end
section
/-! Steps of the pair: looks. -/
section
variable {iv : List (Int × Int)} {L : Nat} {h0 : MH} {A A' : Int → Nat} {c e : SC} {s w v : SM} {t t' : Term} {n : Int} {K K' : List Snap} {Sh : Int → Option Snap} {V : Term} {W : List (Int × Int)} {ys : List (Nat × Nat)} {rs : List Nat} {d d2 : Nat} {z b i k q x f r : Int}
theorem same_pair (h : PAIR n s c) (hx : SX [] [] s w) : PQ (n + 1) c r w r c := ⟨rfl, PAIR_up (PAIR_sx h hx) (by omega), RQ.rf⟩
theorem shl_p (hM : MS n s t K Sh V W) : ∀ p, 0 ≤ p → p < 6 → 0 ≤ s.2 37 p ∧ s.2 37 p ≤ 60 := fun p p0 p6 => by
  obtain ⟨s1, s2⟩ := hM.2.2.1.2 p p0 p6
  cases e : Sh p with
  | none => rw [s1 e]; decide
  | some u =>
    obtain ⟨g1, g2, -⟩ := s2 u e
    have := g2.2.2.2
    rw [g1]
    omega
theorem shl_c (hM : MS n s t K Sh V W) (hD : DKc A c s t K Sh) : ∀ p : Nat, p < 6 → fI c (199 + 6 * p) 5 = s.2 37 p ∧ 0 ≤ s.2 37 p ∧ s.2 37 p ≤ 60 := fun p p6 => by
  refine ⟨?_, shl_p hM p (by omega) (by omega)⟩
  obtain ⟨s1, s2⟩ := hM.2.2.1.2 p (by omega) (by omega)
  obtain ⟨c1, c2⟩ := hD.2.2.2 p p6
  cases e : Sh p with
  | none => rw [s1 e, c1 e]
  | some u => rw [(s2 u e).1, (c2 u e).1]
theorem ps_nodes (h : PAIR n s c) (hdd : 410 ≤ d) (hd2 : 400 ≤ d2) : cm iv L h0 d 82 [vr 307] s (qi fun r s' => ∀ h0', ck iv L h0' d2 5 [vr 64] c (qi (PQ (n + 1) c r s'))) := by
  have hP := h
  obtain ⟨A, t, K, Sh, V, W, hM, hD⟩ := h
  exact nodes_ok hM.1.1.1 (by omega) (fun w hw h0' => nodes_c hD.1.1 (same_pair hP (SX_lay hw)))
theorem ps_cursor (h : PAIR n s c) (hdd : 410 ≤ d) (hd2 : 400 ≤ d2) : cm iv L h0 d 83 [vr 307] s (qi fun r s' => ∀ h0', ck iv L h0' d2 6 [vr 64] c (qi (PQ (n + 1) c r s'))) := by
  have hP := h
  obtain ⟨A, t, K, Sh, V, W, hM, hD⟩ := h
  exact B83 (fun h0' => cursor_c hD.1.1 hM.1.1 (same_pair hP SX.rf))
theorem ps_told (h : PAIR n s c) (hdd : 410 ≤ d) (hd2 : 400 ≤ d2) : cm iv L h0 d 94 [vr 307, vi b, vi k] s (qi fun r s' => ∀ h0', ck iv L h0' d2 7 [vr 64, vi b, vi k] c (qi (PQ (n + 1) c r s'))) := by
  have hP := h
  obtain ⟨d2, rfl⟩ : ∃ k, d2 = k + 1 := ⟨d2 - 1, by omega⟩
  obtain ⟨A, t, K, Sh, V, W, hM, hD⟩ := h
  exact told_ok hM.1.1.1 hM.1.1.2.1 hM.1.2.1 (by omega) (fun w hw h0' => told_c hD.1.1 hM.1.1.1 (same_pair hP hw))
theorem ps_sign (h : PAIR n s c) (hi : i ≤ 2147483647) (hdd : 410 ≤ d) (hd2 : 400 ≤ d2) : cm iv L h0 d 97 [vr 307, vi b, vi q, vi i] s (qi fun r s' => ∀ h0', ck iv L h0' d2 9 [vr 64, vi b, vi q, vi i] c (qi (PQ (n + 1) c r s'))) := by
  have hP := h
  obtain ⟨d2, rfl⟩ : ∃ k, d2 = k + 1 := ⟨d2 - 1, by omega⟩
  obtain ⟨A, t, K, Sh, V, W, hM, hD⟩ := h
  exact sign_ok hM.1.1.1 hM.1.1.2.1 hM.1.2.1 (by omega) (fun w hw h0' => sign_c hD.1.1 hM.1.1.1 hi (same_pair hP hw))
theorem ps_hole (h : PAIR n s c) (hdd : 410 ≤ d) (hd2 : 400 ≤ d2) : cm iv L h0 d 98 [vr 307, vi i, vi f] s (qi fun r s' => ∀ h0', ck iv L h0' d2 10 [vr 64, vi i, vi f] c (qi (PQ (n + 1) c r s'))) := by
  have hP := h
  obtain ⟨A, t, K, Sh, V, W, hM, hD⟩ := h
  exact hole_ok hM.1.1.1 hM.1.1.2.1 hM.1.2.1 (by omega) (fun w hw h0' => hole_c hD.1.1 hM.1.1.1 (same_pair hP hw))
theorem ps_part (h : PAIR n s c) (hn : n ≤ 512) (hdd : 410 ≤ d) (hd2 : 400 ≤ d2) : cm iv L h0 d 95 [vr 307, vi b, vi i] s (qi fun r s' => ∀ h0', ck iv L h0' d2 8 [vr 64, vi b, vi i] c (qi (PQ (n + 1) c r s'))) := by
  have hP := h
  obtain ⟨d2, rfl⟩ : ∃ k, d2 = k + 1 := ⟨d2 - 1, by omega⟩
  obtain ⟨A, t, K, Sh, V, W, hM, hD⟩ := h
  have hr := fnd_b (f := 2) hM hD.1 hn (by decide)
  refine part_ok hM.1.1.1 hM.2.1.2 (by omega) (by omega) (fun w hw h0' => part_c hD.1.1 hM.1.1.1 hr ?_)
  unfold parU at hw
  by_cases g : b ∈ fl t ∧ ¬ (0 ≤ i ∧ i < pO (s.2 9 b))
  · rw [if_pos g] at hw ⊢
    have := ref_pair (f := 2) hM hD (by decide)
    exact ⟨rfl, PAIR_sx this.1 hw, this.2⟩
  · rw [if_neg g] at hw ⊢
    exact same_pair hP hw
theorem ps_steps (h : PAIR n s c) (hdd : 410 ≤ d) (hd2 : 400 ≤ d2) : cm iv L h0 d 139 [vr 307] s (qi fun r s' => ∀ h0', ck iv L h0' d2 26 [vr 64] c (qi (PQ (n + 1) c r s'))) := by
  have hP := h
  obtain ⟨A, t, K, Sh, V, W, hM, hD⟩ := h
  obtain ⟨p, q, hp, hv, ⟨h3, h5⟩, h4⟩ := hD.2.1
  exact B139 (fun h0' => dsteps_c hD.1.1.1.1 (by rw [h3]; exact same_pair hP SX.rf))
theorem ps_where (h : PAIR n s c) (hdd : 410 ≤ d) (hd2 : 400 ≤ d2) : cm iv L h0 d 140 [vr 307] s (qi fun r s' => ∀ h0', ck iv L h0' d2 27 [vr 64] c (qi (PQ (n + 1) c r s'))) := by
  have hP := h
  obtain ⟨A, t, K, Sh, V, W, hM, hD⟩ := h
  obtain ⟨p, q, hp, hv, ⟨h3, h5⟩, h4⟩ := hD.2.1
  exact B140 (fun h0' => dwhere_c hD.1.1.1.1 (by rw [h5]; exact same_pair hP SX.rf))
theorem ps_value (h : PAIR n s c) (hdd : 410 ≤ d) (hd2 : 400 ≤ d2) : cm iv L h0 d 148 [vr 307, vi k] s (qi fun r s' => ∀ h0', ck iv L h0' d2 28 [vr 64, vi k] c (qi (PQ (n + 1) c r s'))) := by
  have hP := h
  obtain ⟨d2, rfl⟩ : ∃ k, d2 = k + 1 := ⟨d2 - 1, by omega⟩
  obtain ⟨A, t, K, Sh, V, W, hM, hD⟩ := h
  have h8 := hM.1.1.1.2.2.2.2.1.2
  obtain ⟨p, q, hp, ⟨v1, v2⟩, -⟩ := hD.2.1
  refine value_ok h8 hM.2.2.2.2.1.1 (by omega) (fun hn h0' => ?_) (fun w hv hw h0' => ?_)
  · exact dvalue_c (A := A) (P := YNG c p) (o := wrt s V) hD.1.1.1.1 (fun _ => same_pair hP SX.rf) (fun g => absurd (v2 hn) g)
  · obtain ⟨g1, g2, g3⟩ := v1 hv
    exact dvalue_c (A := A) (P := YNG c p) (o := wrt s V) hD.1.1.1.1 (fun g => absurd g g1) (fun _ => ⟨g3, same_pair hP (SX.eq hw (by decide) (by decide))⟩)
theorem ps_left (h : PAIR n s c) (hdd : 410 ≤ d) (hd2 : 400 ≤ d2) : cm iv L h0 d 149 [vr 307, vi k] s (qi fun r s' => ∀ h0', ck iv L h0' d2 29 [vr 64, vi k] c (qi (PQ (n + 1) c r s'))) := by
  have hP := h
  obtain ⟨d2, rfl⟩ : ∃ k, d2 = k + 1 := ⟨d2 - 1, by omega⟩
  obtain ⟨A, t, K, Sh, V, W, hM, hD⟩ := h
  have h8 := hM.1.1.1.2.2.2.2.1.2
  obtain ⟨p, q, hp, ⟨v1, v2⟩, -⟩ := hD.2.1
  have hN := NDW_of hD.1.1 hM.1.1.1
  refine left_ok h8 hM.2.2.2.2.1.1 (by omega) (fun hn h0' => ?_) (fun w hv hw h0' => ?_)
  · exact dleft_c (V := V) (P := YNG c p) hD.1.1.1.1 hN (fun g => absurd (v2 hn) g) (fun _ => same_pair hP SX.rf) (fun g => absurd (v2 hn) g)
  · obtain ⟨g1, g2, g3⟩ := v1 hv
    exact dleft_c (V := V) (P := YNG c p) hD.1.1.1.1 hN (fun _ => ⟨g2.2.1, g3⟩) (fun g => absurd g g1) (fun _ => same_pair hP (SX.eq hw (by decide) (by decide)))
theorem ps_asked (h : PAIR n s c) (hdd : 410 ≤ d) (hd2 : 400 ≤ d2) : cm iv L h0 d 156 [vr 307] s (qi fun r s' => ∀ h0', ck iv L h0' d2 35 [vr 64] c (qi (fun _ e => PAIR (n + 1) s' e ∧ RQ c e))) := by
  have hP := h
  obtain ⟨A, t, K, Sh, V, W, hM, hD⟩ := h
  exact B156 (fun h0' => asked_c hD.1.1.1.1 ⟨PAIR_up hP (by omega), RQ.rf⟩)
theorem ps_count (h : PAIR n s c) (hdd : 410 ≤ d) (hd2 : 400 ≤ d2) : cm iv L h0 d 157 [vr 307, vi k] s (qi fun r s' => ∀ h0', ck iv L h0' d2 36 [vr 64, vi k] c (qi (PQ (n + 1) c r s'))) := by
  have hP := h
  obtain ⟨d2, rfl⟩ : ∃ k, d2 = k + 1 := ⟨d2 - 1, by omega⟩
  obtain ⟨A, t, K, Sh, V, W, hM, hD⟩ := h
  obtain ⟨p, q, hp, hv, h3, h4⟩ := hD.2.1
  exact count_ok hM.1.1.1 hM.1.1.2.1 hM.1.2.1 (shl_p hM) (by omega) (fun w hw h0' => count_c hD.1.1 hM.1.1.1 (hD.1.2.2.1.1.1.trans hM.2.2.1.1.1.symm) (shl_c hM hD.1) h4 (same_pair hP hw))
theorem ps_finding (h : PAIR n s c) (hdd : 410 ≤ d) (hd2 : 400 ≤ d2) : cm iv L h0 d 62 [vr 307] s (qi fun r s' => ∀ h0', ck iv L h0' d2 37 [vr 64] c (qi (PQ (n + 1) c r s'))) := by
  have hP := h
  obtain ⟨A, t, K, Sh, V, W, hM, hD⟩ := h
  exact B62 (fun h0' => finding_c hD.1.1.1.1 hD.1.2.1.2.1 (same_pair hP SX.rf))
theorem ps_findings (h : PAIR n s c) (hdd : 410 ≤ d) (hd2 : 400 ≤ d2) : cm iv L h0 d 63 [vr 307, vi f] s (qi fun r s' => ∀ h0', ck iv L h0' d2 38 [vr 64, vi f] c (qi (PQ (n + 1) c r s'))) := by
  have hP := h
  obtain ⟨d, rfl⟩ : ∃ k, d = k + 1 := ⟨d - 1, by omega⟩
  obtain ⟨A, t, K, Sh, V, W, hM, hD⟩ := h
  exact findings_ok (fun h0' => findings_c hD.1.1.1.1 hD.1.2.1.2.1 (same_pair hP SX.rf))
theorem ps_digest (h : PAIR n s c) (hdd : 410 ≤ d) (hd2 : 400 ≤ d2) : cm iv L h0 d 158 [vr 307] s (ql fun r s' => ∀ h0', ck iv L h0' d2 39 [vr 64] c (ql (PQ (n + 1) c r s'))) := by
  have hP := h
  obtain ⟨A, t, K, Sh, V, W, hM, hD⟩ := h
  exact digest_ok hM.1.1.1 hM.1.1.2.1 hM.1.2.1 (by omega) (fun w hw h0' => digest_c hD.1.1 hM.1.1 (same_pair hP hw))
theorem ps_kindOf (h : PAIR n s c) (hdd : 410 ≤ d) (hd2 : 400 ≤ d2) : cm iv L h0 d 69 [vr 307, vi k, vi z] s (qi fun r s' => ∀ h0', ck iv L h0' d2 3 [vr 64, vi k, vi z] c (qi (PQ (n + 1) c r s'))) := by
  have hP := h
  obtain ⟨d, rfl⟩ : ∃ k, d = k + 2 := ⟨d - 2, by omega⟩
  obtain ⟨d2, rfl⟩ : ∃ k, d2 = k + 1 := ⟨d2 - 1, by omega⟩
  obtain ⟨A, t, K, Sh, V, W, hM, hD⟩ := h
  exact kindOf_ok hM.1.2.1 (fun h0' => kindOf_c hD.1.1.1.1 hD.1.1.2.2.1 hM.1.2.1 (same_pair hP SX.rf))
end
end
section
/-! Steps of the pair: meet, the cursor, the box. -/
section
variable {iv : List (Int × Int)} {L : Nat} {h0 : MH}
theorem meeting_40 {s : SM} (hs : KJ (s.1 2) 40 (s.2 4) (s.2 5) (s.2 6) (s.2 7)) : ∀ (q : Nat) (a b : Int), s.2 7 a ≤ q → vk (s.1 2) 40 a → vk (s.1 2) 40 b → cm iv L h0 q 70 [vr 307, vi a, vi b] s (qi fun r t => t = s ∧ r = if kmt (kts s a) (kts s b) then 1 else 0) := by
  have hm0 := hs.2.1
  have hn := hs.1.1
  have leaf : ∀ k, (s.2 4 k = 0 → kts s k = .null) ∧ (s.2 4 k = 1 → kts s k = .result) ∧ (s.2 4 k = 2 → kts s k = .thrown) := fun k => kt_leaf hs
  have node : ∀ k, vk (s.1 2) 40 k → (s.2 4 k = 3 → kts s k = .add (kts s (s.2 5 k)) (kts s (s.2 6 k))) ∧ (s.2 4 k = 4 → kts s k = .mul (kts s (s.2 5 k)) (kts s (s.2 6 k))) := fun k hk => kt_node hs hk
  have n0 : kts s 0 = .null := (leaf 0).1 (hs.1.2.1 0 (by omega) (by omega)).1
  have nnl : ∀ x : Term, kmt x .null = true := fun x => by cases x <;> rfl
  intro q
  induction q with
  | zero => intro a b h1 ha hb; have := (hs.at ha).1; omega
  | succ q ih =>
    intro a b h1 ha hb
    have Ha := hs.at ha
    have Hb := hs.at hb
    have la := ha.lt hn.2 hm0
    have lb := hb.lt hn.2 hm0
    refine B70 ⟨fun e => ⟨rfl, by subst e; rw [n0]; rfl⟩, fun e => ⟨fun e2 => ⟨by omega, by omega, fun e3 => ⟨fun e4 => ?_, fun e4 => ?_⟩, fun e3 => ?_⟩, fun e2 => ⟨rfl, by subst e2; rw [n0, nnl]; rfl⟩⟩⟩
    · -- both of one sign
      refine ⟨rfl, ?_⟩
      have ka := (Ha.2.2.1 e4).1
      rcases (show s.2 4 a = 1 ∨ s.2 4 a = 2 by omega) with e5 | e5
      · rw [(leaf a).2.1 e5, (leaf b).2.1 (by omega)]; rfl
      · rw [(leaf a).2.2 e5, (leaf b).2.2 (by omega)]; rfl
    · obtain ⟨a3, va, wa, ea, sa, ta⟩ := Ha.2.2.2 e4
      obtain ⟨b3, vb, wb, eb, sb, tb⟩ := Hb.2.2.2 (by omega)
      have va' : vk (s.1 2) 40 (s.2 5 a) := va.up (by omega)
      have wa' : vk (s.1 2) 40 (s.2 6 a) := wa.up (by omega)
      have vb' : vk (s.1 2) 40 (s.2 5 b) := vb.up (by omega)
      have wb' : vk (s.1 2) 40 (s.2 6 b) := wb.up (by omega)
      have hk : kmt (kts s a) (kts s b) = (kmt (kts s (s.2 5 a)) (kts s (s.2 5 b)) && kmt (kts s (s.2 6 a)) (kts s (s.2 6 b))) := by
        rcases (show s.2 4 a = 3 ∨ s.2 4 a = 4 by omega) with e5 | e5
        · rw [(node a ha).1 e5, (node b hb).1 (by omega)]; rfl
        · rw [(node a ha).2 e5, (node b hb).2 (by omega)]; rfl
      rw [hk]
      refine wci_mono (ih _ _ (by omega) va' vb') (Nat.le_refl _) ?_
      rintro r t ⟨rfl, rfl⟩
      cases hc : kmt (kts t (t.2 5 a)) (kts t (t.2 5 b)) with
      | false => exact ⟨fun _ => ⟨rfl, rfl⟩, fun h => absurd rfl h⟩
      | true =>
        refine ⟨fun h => absurd h (by decide), fun _ => wci_mono (ih _ _ (by omega) wa' wb') (Nat.le_refl _) ?_⟩
        rintro r u ⟨rfl, rfl⟩
        cases hc2 : kmt (kts u (u.2 6 a)) (kts u (u.2 6 b)) with
        | false => exact ⟨fun _ => ⟨rfl, rfl⟩, fun h => absurd rfl h⟩
        | true => exact ⟨fun h => absurd h (by decide), fun _ => ⟨rfl, rfl⟩⟩
    · refine ⟨rfl, ?_⟩
      have z1 : s.2 4 a ≠ 0 := fun h => e (by have := (Ha.2.2.1 (by omega)).1; omega)
      have z2 : s.2 4 b ≠ 0 := fun h => e2 (by have := (Hb.2.2.1 (by omega)).1; omega)
      have : kmt (kts s a) (kts s b) = false := by
        rcases (show s.2 4 a = 1 ∨ s.2 4 a = 2 ∨ s.2 4 a = 3 ∨ s.2 4 a = 4 by omega) with f | f | f | f <;> rcases (show s.2 4 b = 1 ∨ s.2 4 b = 2 ∨ s.2 4 b = 3 ∨ s.2 4 b = 4 by omega) with f2 | f2 | f2 | f2
        all_goals first
          | (exfalso; omega)
          | (rw [(leaf a).2.1 f, (leaf b).2.2 f2]; rfl)
          | (rw [(leaf a).2.1 f, (node b hb).1 f2]; rfl)
          | (rw [(leaf a).2.1 f, (node b hb).2 f2]; rfl)
          | (rw [(leaf a).2.2 f, (leaf b).2.1 f2]; rfl)
          | (rw [(leaf a).2.2 f, (node b hb).1 f2]; rfl)
          | (rw [(leaf a).2.2 f, (node b hb).2 f2]; rfl)
          | (rw [(node a ha).1 f, (leaf b).2.1 f2]; rfl)
          | (rw [(node a ha).1 f, (leaf b).2.2 f2]; rfl)
          | (rw [(node a ha).1 f, (node b hb).2 f2]; rfl)
          | (rw [(node a ha).2 f, (leaf b).2.1 f2]; rfl)
          | (rw [(node a ha).2 f, (leaf b).2.2 f2]; rfl)
          | (rw [(node a ha).2 f, (node b hb).1 f2]; rfl)
      rw [this]
      rfl
end
section
variable {iv : List (Int × Int)} {L : Nat} {h0 : MH} {A A' : Int → Nat} {c e : SC} {s w v u : SM} {t t' : Term} {n : Int} {K K' : List Snap} {Sh : Int → Option Snap} {V : Term} {W : List (Int × Int)} {ys : List (Nat × Nat)} {rs : List Nat} {d d2 : Nat} {z a b i j k q x f r : Int}
theorem meet3_ok {F : Int → SM → Prop} (hK : KIs s) (hdd : 50 ≤ d) (H : F (metA s a b) s) : cm iv L h0 d 72 [vr 307, vi a, vi b] s (qi F) := by
  obtain ⟨d, rfl⟩ : ∃ k, d = k + 2 := ⟨d - 2, by omega⟩
  unfold metA at H
  have h3 := KJ_40 hK
  refine B72 ⟨hK.1, fun ha => ⟨fun hb => ?_, fun hb => by rw [if_neg (by omega)] at H; exact H⟩, fun ha => by rw [if_neg (by omega)] at H; exact H⟩
  rw [if_pos ⟨ha, hb⟩, kks_told ha, kks_told hb] at H
  refine wci_mono (meeting_40 h3 40 a b (h3.at (k := a) (Or.inl ha)).1.2 (Or.inl ha) (Or.inl hb)) (by omega) ?_
  rintro r w ⟨rfl, rfl⟩
  cases h : kmt (kts w a) (kts w b) with
  | true => rw [h] at H; exact ⟨fun q => absurd q (by decide), fun _ => H⟩
  | false => rw [h] at H; exact ⟨fun _ => H, fun q => absurd rfl q⟩
theorem ps_meet (h : PAIR n s c) (hdd : 410 ≤ d) (hd2 : 400 ≤ d2) : cm iv L h0 d 72 [vr 307, vi a, vi b] s (qi fun r s' => ∀ h0', ck iv L h0' d2 4 [vr 64, vi a, vi b] c (qi (PQ (n + 1) c r s'))) := by
  have hP := h
  obtain ⟨A, t, K, Sh, V, W, hM, hD⟩ := h
  exact meet3_ok hM.1.2.1 (by omega) (fun h0' => meet_c hD.1.1 hM.1.2.1 (by omega) (same_pair hP SX.rf))
theorem us_id : us s 16 (s.1 16) = s := by
  have : (fun y => if y = 16 then s.1 16 else s.1 y) = s.1 := funext fun y => by
    by_cases g : y = 16
    · rw [if_pos g, g]
    · rw [if_neg g]
  unfold us
  rw [this]
/-- the cursor put on a node -/
theorem cur_pair (hM : MS n s t K Sh V W) (hD : DKc A c s t K Sh ∧ WKD A c s V ∧ DLK A c s t W) (hb : b ∈ fl t) (hx : SX [] [] (us s 16 b) w) (h1 : R1 A e (us s 16 b) t) (hc : CX [(8, 2)] [] c e) (hr : RMk 0 0 c e) : PAIR n w e ∧ RQ c e := by
  obtain ⟨d1, d2, d3⟩ := id hD
  have hX := d1.1.1.1
  have hT := hM.1.1
  have x0 : SX [16] [] s (us s 16 b) := SX.eq (ys := [16]) (fs := []) (eqx_us eqx.rf (by decide)) (by decide) (by decide)
  have sx : SX [16] [] s w := x0.tr (hx.up (by decide) (by decide))
  have h0 : AFT (us s 16 b) t := ⟨hT.1.x x0 (by decide) (by decide), hT.2.1.x x0 hT.1.2.2.2.2.1.2 (by decide) (by decide), hb⟩
  have hA : AFT w t := h0.x hx (by decide) (by decide)
  have K0 := KIs_x hM.1.2.1 x0 (by decide) (by decide)
  have hM' : MS n w t K Sh V W := MS_g hM sx (by decide) (by decide) hA (KIs_x hM.1.2.1 sx (by decide) (by decide)) (BX_x hM.2.1.1 sx (by decide) (by decide) (by rw [sx.1 8 (by decide) (by decide)]; exact Int.le_refl _)) (hM.2.1.2.x sx (by decide)) (hM.2.2.1.2.x sx (by decide) (by decide))
  have r1 := R1_sx h1 h0.1 hA.1 h0.2.1 K0 hx (by decide) (by decide)
  have sb := SBX_x sx (by decide) (by decide)
  have np : NPY [(8, 2)] [] := ⟨fun y => ⟨by simp, by simp⟩, ⟨by decide, by decide⟩, by decide, by decide, by decide, by decide⟩
  exact oth_pair hM hD hM' hc hr sx np ⟨fun y => by simp, ⟨by decide, by decide⟩, fun k => by simp, fun k => by simp, by decide⟩ ⟨by decide, by decide⟩ (by decide) (by decide) ⟨r1, ⟨(d1.2.1.1.x hX hc (by decide) (by decide)).sb sb, (d1.2.1.2.1.x hX hc (by decide) (by decide)).sb sb, d1.2.1.2.2.x hX hc (by decide) (fun a ha => by cases ha)⟩, d1.2.2.1.x hX EXT.rf hT.1.2.2.2.2.1.1 (KPs hM) hc (by decide) (by decide), d1.2.2.2.x hX hc (by decide) (fun a ha => by cases ha)⟩
theorem kid_in (hT : AFT s t) {x i : Int} (hx : x ∈ fl t) (i0 : 0 ≤ i) (i1 : i < pO (s.2 9 x)) : s.2 14 (3 * x + i) ∈ fl t := ((AT_mem t hT.1.1 x hx).2.2.1 i i0 i1 (fun w => by have := hT.1.2.1; unfold full at this; rw [this, ← w]; exact i1)).1
theorem bes_in (hT : AFT s t) (z : Int) : besA s z = -9 ∨ besA s z ∈ fl t := by
  have hS := hT.1
  unfold besA
  by_cases w : s.2 12 (s.1 16) = -9
  · rw [if_pos w]; exact Or.inl rfl
  · rw [if_neg w]
    by_cases w2 : 0 ≤ s.2 13 (s.1 16) + z ∧ s.2 13 (s.1 16) + z < pO (s.2 9 (s.2 12 (s.1 16)))
    · rw [if_pos w2]; exact Or.inr (kid_in hT (hS.up9 hT.2.2 (fun w' => w (by rw [w']; exact hS.2.2.2.2.2.2.1))) w2.1 w2.2)
    · rw [if_neg w2]; exact Or.inl rfl
theorem goG_in (hT : AFT s t) : goG s t k = -9 ∨ goG s t k ∈ fl t := by
  have hS := hT.1
  unfold goG
  split
  · by_cases w : s.1 16 = hd t
    · left; rw [w]; exact hS.2.2.2.2.2.2.1
    · right; exact hS.up9 hT.2.2 w
  · split
    · split
      · rename_i g
        have := kid_in hT hT.2.2 (i := 0) (Int.le_refl _) g
        rw [Int.add_zero] at this
        exact Or.inr this
      · exact Or.inl rfl
    · split
      · exact bes_in hT 1
      · split
        · exact bes_in hT (-1)
        · split
          · exact (bhd_in (isH s) (s.1 16) (fl t) false).imp id (fun w => w.1)
          · right
            rw [← hS.2.2.2.2.2.1]
            exact hd_mem t hS.1
theorem ps_go (h : PAIR n s c) (hdd : 410 ≤ d) (hd2 : 400 ≤ d2) : cm iv L h0 d 105 [vr 307, vi k] s (qi fun r s' => ∀ h0', ck iv L h0' d2 11 [vr 64, vi k] c (qi (PQ (n + 1) c r s'))) := by
  have hP := h
  obtain ⟨A, t, K, Sh, V, W, hM, hD⟩ := h
  have hT := hM.1.1
  refine go_ok hT.1 hT.2.2 (by omega) (fun w hw h0' => go_c hD.1.1 hT (by omega) (fun e h1 hc hr => ?_))
  unfold goU at hw h1
  by_cases g : (0 ≤ k ∧ k ≤ 5) ∧ goG s t k ≠ -9
  · rw [if_pos g] at hw h1
    have := cur_pair hM hD ((goG_in hT).resolve_left g.2) hw h1 hc hr
    exact ⟨rfl, PAIR_up this.1 (by omega), this.2⟩
  · rw [if_neg g] at hw h1
    have x0 := us_id (s := s)
    have := cur_pair (b := s.1 16) hM hD hT.2.2 (by rw [x0]; exact hw) (by rw [x0]; exact h1) hc hr
    exact ⟨rfl, PAIR_up this.1 (by omega), this.2⟩
theorem ps_seek (h : PAIR n s c) (hdd : 410 ≤ d) (hd2 : 400 ≤ d2) : cm iv L h0 d 106 [vr 307, vi b] s (qi fun r s' => ∀ h0', ck iv L h0' d2 12 [vr 64, vi b] c (qi (PQ (n + 1) c r s'))) := by
  have hP := h
  obtain ⟨d2, rfl⟩ : ∃ k, d2 = k + 1 := ⟨d2 - 1, by omega⟩
  obtain ⟨A, t, K, Sh, V, W, hM, hD⟩ := h
  have hT := hM.1.1
  refine seek_ok hT.1 (by omega) (fun w hw h0' => seek_c hD.1.1 hT.1 (fun e h1 hc hr => ?_))
  unfold seeU at hw h1
  by_cases g : b ∈ fl t
  · rw [if_pos g] at hw h1
    have := cur_pair hM hD g hw h1 hc hr
    exact ⟨rfl, PAIR_up this.1 (by omega), this.2⟩
  · rw [if_neg g] at hw h1
    have x0 := us_id (s := s)
    have := cur_pair (b := s.1 16) hM hD hT.2.2 (by rw [x0]; exact hw) (by rw [x0]; exact h1) hc hr
    exact ⟨rfl, PAIR_up this.1 (by omega), this.2⟩
end
end
section
/-! Steps of the pair: the box. -/
def BU (n : Int) (s u : SM) : Prop := SX [0, 71, 73] [1, 72] s u ∧ BX u ∧ CM (n + 1) u
section
variable {iv : List (Int × Int)} {L : Nat} {h0 : MH} {A A' : Int → Nat} {c e : SC} {s w v u : SM} {t t' : Term} {n : Int} {K K' : List Snap} {Sh : Int → Option Snap} {V : Term} {W : List (Int × Int)} {ys : List (Nat × Nat)} {rs : List Nat} {d d2 : Nat} {z a b i j k q x f r : Int}
theorem BU_rf (hM : MS n s t K Sh V W) : BU n s s := ⟨SX.rf, hM.2.1.1, CM_up hM.2.1.2 (by omega)⟩
theorem BU_mt (hM : MS n s t K Sh V W) (hf : 0 ≤ f ∧ f < 6) : BU n s (mtU s f) := by
  have := MS_mt hM hf
  exact ⟨SX.eq (ys := [0]) (fs := [1]) (eqx_ua (eqx_us eqx.rf (by decide)) (by decide)) (by decide) (by decide), this.2.1.1, this.2.1.2⟩
theorem BU_73 (hM : MS n s t K Sh V W) : BU n s (us s 73 z) := ⟨SX.eq (ys := [73]) (fs := []) (eqx_us eqx.rf (by decide)) (by decide) (by decide), hM.2.1.1, CM_up (n := n) (s := us s 73 z) hM.2.1.2 (by omega)⟩
theorem BU_box (hM : MS n s t K Sh V W) : BU n s (boxU s z) := by
  unfold boxU
  split
  · exact BU_rf hM
  · split
    · exact BU_mt hM (by decide)
    · rename_i g1 g2
      have hB := hM.1.1.1.2.2.2.2.1.1
      have e0 : eqx [71] [72] s (zbx (us s 71 z)) := ⟨fun y hy => if_neg (fun q => hy (by rw [q]; decide)), fun f hf => by
        funext i
        show (if f = 72 ∧ 0 ≤ i ∧ i < 8 then 0 else s.2 f i) = s.2 f i
        rw [if_neg (fun q => hf (by rw [q.1]; decide))]⟩
      refine ⟨SX.eq (ys := [71]) (fs := [72]) e0 (by decide) (by decide), ⟨⟨show 0 ≤ z by omega, show z ≤ 8 by omega⟩, fun i i0 i8 => ?_⟩, fun f f0 f6 => ?_⟩
      · have e1 : (zbx (us s 71 z)).2 72 i = 0 := if_pos ⟨rfl, i0, i8⟩
        rw [e1]
        exact ⟨Int.le_refl _, hB⟩
      · rw [e0.2 1 (by decide)]
        exact CM_up hM.2.1.2 (by omega) f f0 f6
theorem BU_kep (hM : MS n s t K Sh V W) : BU n s (kepU s t i b) := by
  unfold kepU
  split
  · rename_i hb
    split
    · rename_i g
      have hB := hM.1.1.1.lt hb
      have hX := hM.2.1.1
      have e0 : eqx [] [72] s (ua s 72 i (b + 1)) := eqx_ua eqx.rf (by decide)
      refine ⟨SX.eq (ys := []) (fs := [72]) e0 (by decide) (by decide), ⟨hX.1, fun j j0 j8 => ?_⟩, fun f f0 f6 => ?_⟩
      · show 0 ≤ (if (72 : Nat) = 72 ∧ j = i then b + 1 else s.2 72 j) ∧ (if (72 : Nat) = 72 ∧ j = i then b + 1 else s.2 72 j) ≤ s.1 8
        by_cases q : j = i
        · rw [if_pos ⟨rfl, q⟩]; omega
        · rw [if_neg (fun w => q w.2)]; exact hX.2 j j0 j8
      · rw [e0.2 1 (by decide)]
        exact CM_up hM.2.1.2 (by omega) f f0 f6
    · exact BU_mt hM (by decide)
  · exact BU_rf hM
theorem BU_bxd (hM : MS n s t K Sh V W) : BU n s (bxdU s i k) := by
  unfold bxdU
  split
  · split
    · exact BU_73 hM
    · exact BU_mt hM (by have := lak_in (s := s) (i := i) (k := k); omega)
  · exact BU_rf hM
theorem BU_sha (hM : MS n s t K Sh V W) : BU n s (shaU s i j) := by
  unfold shaU
  split
  · exact BU_73 hM
  · refine BU_mt hM ?_
    unfold shaF
    split
    · decide
    · split
      · decide
      · split
        · decide
        · split <;> decide
theorem ky5n {a : Nat} : ky a 5 ≠ 1 := by
  unfold ky
  split <;> decide
/-- .. where one field of the desk itself changes -/
theorem DLK_x1 (h : DLK A c s t W) (hX : FIX c) (hN : ND A c s) (hx : CX ys rs c e) (hr : RMk 0 0 c e) (hy : (∀ k, (k, 11) ∉ ys) ∧ (∀ k, k ≠ 1 → (k, 12) ∉ ys) ∧ (1, 15) ∉ ys) (hm : ∀ x, x ∈ fl t → 0 ≤ x ∧ x < s.1 8) (h8 : v.1 8 = s.1 8) (h35 : v.1 35 = s.1 35) (h42 : ∀ b, 0 ≤ b → b < s.1 8 → v.2 42 b = s.2 42 b) : DLK A e v t W := by
  obtain ⟨h1, h2, h3, h4⟩ := h
  have h353 := hX.2.2.1
  have e15 : fI e 64 15 = fI c 64 15 := hx.i (by omega) (by rw [hX.wt.1]; exact hy.2.2)
  have lt : ∀ b, 0 ≤ b → b < s.1 8 → A b < nxt c ∧ kl c (A b) = 5 := fun b b0 b1 => by
    obtain ⟨⟨n1, -⟩, n9, -⟩ := hN.2 b b0 b1
    exact ⟨by omega, n1⟩
  have r12 : ∀ a, a < nxt c → kl c a = 5 → fR e a 12 = fR c a 12 := fun a ha hk => hx.r ha (hy.2.1 _ (by rw [hk]; exact ky5n))
  refine ⟨by rw [e15, h35]; exact h1, QN_up h2 hN EXT.rf hx hy.1 (fun a ha h hk => (r12 a ha hk).trans h) (NWc_nn hr.1) (by omega), fun b hb => ?_, fun w => ⟨fun b b0 b1 hf => ?_, fun b hb => ?_⟩⟩
  · have := lt b (hm b hb).1 (hm b hb).2
    rw [r12 _ this.1 this.2]; exact h3 b hb
  · rw [h8] at b1
    rw [h42 b b0 b1] at hf ⊢
    have := lt b b0 b1
    rw [r12 _ this.1 this.2]
    exact (h4 (by rw [← h35]; exact w)).1 b b0 b1 hf
  · rw [hx.i (lt b (hm b hb).1 (hm b hb).2).1 (hy.1 _)]
    exact (h4 (by rw [← h35]; exact w)).2 b hb
theorem bx_pair (hM : MS n s t K Sh V W) (hD : DKc A c s t K Sh ∧ WKD A c s V ∧ DLK A c s t W) (hu : BU n s u) (hx : SX [] [] u v) (hc : CX [(1, 12), (1, 13), (1, 14)] [197, 198] c e) (hr : RMk 0 0 c e) (hb : BXc A e u) (hf : FNc e u) : PAIR (n + 1) v e ∧ RQ c e := by
  obtain ⟨d1, d2, d3⟩ := id hD
  have hX := d1.1.1.1
  have hT := hM.1.1
  obtain ⟨x0, hB, hC⟩ := hu
  have sx : SX [0, 71, 73] [1, 72] s v := x0.tr (hx.up (by decide) (by decide))
  have hA : AFT v t := hT.x sx (by decide) (by decide)
  have hM' : MS (n + 1) v t K Sh V W := MS_g hM sx (by decide) (by decide) hA (KIs_x hM.1.2.1 sx (by decide) (by decide)) (BX_x hB hx (by decide) (by decide) (by rw [hx.1 8 (by decide) (by decide)]; exact Int.le_refl _)) (hC.x hx (by decide)) (hM.2.2.1.2.x sx (by decide) (by decide))
  have r1 : R1 A e s t := d1.1.x hT.1 hc (by decide) (by decide) (by decide) (by decide)
  have r1 := R1_sx r1 hT.1 hA.1 hT.2.1 hM.1.2.1 sx (by decide) (by decide)
  have sb := SBX_x hx (by decide) (by decide)
  have np : NPY [(1, 12), (1, 13), (1, 14)] [197, 198] := ⟨fun y => ⟨by simp, by simp⟩, ⟨by decide, by decide⟩, by decide, by decide, by decide, by decide⟩
  have dk : DKc A e v t K Sh := ⟨r1, ⟨hb.sb sb, hf.sb sb, d1.2.1.2.2.x hX hc (by decide) (fun a ha => by simp at ha; omega)⟩, d1.2.2.1.x hX EXT.rf hT.1.2.2.2.2.1.1 (KPs hM) hc (by decide) (by decide), d1.2.2.2.x hX hc (by decide) (fun a ha => by simp at ha; omega)⟩
  exact ⟨⟨A, t, K, Sh, V, W, hM', dk, WKD_x d2 hX hc np (fun y => by simp) (w183 hX hc ⟨by decide, by decide⟩ ⟨by decide, by decide⟩) EXT.rf ⟨sx.1 56 (by decide) (by decide), sx.1 60 (by decide) (by decide), sx.1 61 (by decide) (by decide)⟩ (fun b hb => sx.nod (Or.inl rfl) (by decide) (by have := hT.1.2.2.2.2.1; omega)) (by rw [sx.1 8 (by decide) (by decide)]; exact Int.le_refl _), DLK_x1 d3 hX d1.1.1.2.1 hc hr ⟨fun k => by simp, fun k hk => by simp; omega, by decide⟩ (mm hM) (sx.1 8 (by decide) (by decide)) (sx.1 35 (by decide) (by decide)) (fun b _ _ => by rw [sx.row (f := 42) (by decide) (by decide) (by decide)])⟩, RQ_cx hX hc np hr (by decide) (by decide)⟩
theorem fn_r (hM : MS n s t K Sh V W) (hn : n ≤ 512) : ∀ f, 0 ≤ f → f < 6 → 0 ≤ s.2 1 f ∧ s.2 1 f ≤ 600 := fun f f0 f6 => by have := hM.2.1.2 f f0 f6; omega
theorem ps_box (h : PAIR n s c) (hn : n ≤ 512) (hdd : 410 ≤ d) (hd2 : 400 ≤ d2) : cm iv L h0 d 151 [vr 307, vi z] s (qi fun r s' => ∀ h0', ck iv L h0' d2 31 [vr 64, vi z] c (qi (PQ (n + 1) c r s'))) := by
  have hP := h
  obtain ⟨d, rfl⟩ : ∃ k, d = k + 1 := ⟨d - 1, by omega⟩
  obtain ⟨d2, rfl⟩ : ∃ k, d2 = k + 1 := ⟨d2 - 1, by omega⟩
  obtain ⟨A, t, K, Sh, V, W, hM, hD⟩ := h
  refine box_ok hM.2.1.2 (by omega) (fun h0' => box_c hD.1.1.1.1 hD.1.1.1.2.1 hD.1.2.1.1 hD.1.2.1.2.1 (fn_r hM hn) (fun e hc hr hb hf => ?_))
  have := bx_pair hM hD (BU_box hM) SX.rf (hc.up (by decide) (by decide)) hr hb hf
  exact ⟨rfl, this.1, this.2⟩
theorem ps_keep (h : PAIR n s c) (hn : n ≤ 512) (hdd : 410 ≤ d) (hd2 : 400 ≤ d2) : cm iv L h0 d 152 [vr 307, vi i, vi b] s (qi fun r s' => ∀ h0', ck iv L h0' d2 32 [vr 64, vi i, vi b] c (qi (PQ (n + 1) c r s'))) := by
  have hP := h
  obtain ⟨d2, rfl⟩ : ∃ k, d2 = k + 1 := ⟨d2 - 1, by omega⟩
  obtain ⟨A, t, K, Sh, V, W, hM, hD⟩ := h
  refine keep_ok hM.1.1.1 hM.2.1.1 hM.2.1.2 (by omega) (by omega) (fun w hw h0' => keep_c hD.1.1 hM.1.1.1 hD.1.2.1.1 hM.2.1.1 hD.1.2.1.2.1 (fn_r hM hn) (fun e hc hr hb hf => ?_))
  have := bx_pair hM hD (BU_kep hM) hw (hc.up (by decide) (by decide)) hr hb hf
  exact ⟨rfl, this.1, this.2⟩
theorem ps_boxed (h : PAIR n s c) (hn : n ≤ 512) (hdd : 410 ≤ d) (hd2 : 400 ≤ d2) : cm iv L h0 d 154 [vr 307, vi i, vi k] s (qi fun r s' => ∀ h0', ck iv L h0' d2 33 [vr 64, vi i, vi k] c (qi (PQ (n + 1) c r s'))) := by
  have hP := h
  obtain ⟨d, rfl⟩ : ∃ k, d = k + 2 := ⟨d - 2, by omega⟩
  obtain ⟨d2, rfl⟩ : ∃ k, d2 = k + 1 := ⟨d2 - 1, by omega⟩
  obtain ⟨A, t, K, Sh, V, W, hM, hD⟩ := h
  refine boxed_ok hM.2.1.1 hM.1.1.1.2.2.2.2.1.2 hM.2.1.2 (by omega) (fun h0' => boxed_c hD.1.1.1.1 hD.1.1.1.2.1 hD.1.2.1.1 hM.2.1.1 hD.1.2.1.2.1 (fn_r hM hn) (fun e hc hr hb hf => ?_))
  have := bx_pair hM hD (BU_bxd hM) SX.rf (hc.up (by decide) (by decide)) hr hb hf
  exact ⟨rfl, this.1, this.2⟩
theorem ps_share (h : PAIR n s c) (hn : n ≤ 512) (hdd : 410 ≤ d) (hd2 : 400 ≤ d2) : cm iv L h0 d 155 [vr 307, vi i, vi j] s (qi fun r s' => ∀ h0', ck iv L h0' d2 34 [vr 64, vi i, vi j] c (qi (PQ (n + 1) c r s'))) := by
  have hP := h
  obtain ⟨d, rfl⟩ : ∃ k, d = k + 2 := ⟨d - 2, by omega⟩
  obtain ⟨d2, rfl⟩ : ∃ k, d2 = k + 1 := ⟨d2 - 1, by omega⟩
  obtain ⟨A, t, K, Sh, V, W, hM, hD⟩ := h
  refine share_ok hM.2.1.1 hM.1.1.1.2.2.2.2.1.2 hM.2.1.2 (by omega) (fun h0' => share_c hD.1.1.1.1 hD.1.1.1.2.1 hD.1.2.1.1 hM.2.1.1 hD.1.2.1.2.1 (fn_r hM hn) (fun e hc hr hb hf => ?_))
  have := bx_pair hM hD (BU_sha hM) SX.rf (hc.up (by decide) (by decide)) hr hb hf
  exact ⟨rfl, this.1, this.2⟩
end
end
section
/-! Steps of the pair: seen, offers, kind. -/
section
variable {iv : List (Int × Int)} {L : Nat} {h0 : MH} {A A' : Int → Nat} {c e : SC} {s w v u : SM} {t t' : Term} {n : Int} {K K' : List Snap} {Sh : Int → Option Snap} {V : Term} {W : List (Int × Int)} {ys : List (Nat × Nat)} {rs : List Nat} {d d2 : Nat} {z a b i j k q x f r : Int}
theorem glm_pair (hM : MS n s t K Sh V W) (hD : DKc A c s t K Sh ∧ WKD A c s V ∧ DLK A c s t W) (hx : SX [] [] s w) (hw : WX 188 c e) : PAIR n w e ∧ RQ c e := by
  obtain ⟨d1, d2, d3⟩ := id hD
  have hX := d1.1.1.1
  have hT := hM.1.1
  have hc := hw.cx hX.wt.2.2.2.2.2.2.2.2 (by decide)
  have hr : RMk 0 0 c e := ⟨by have := hw.1.1; omega, by have := hw.1.2; omega⟩
  have hM' := MS_x hM hx (by decide) (by decide)
  have r1 : R1 A e s t := d1.1.x hT.1 hc (by decide) (by decide) (by decide) (by decide)
  have r1 := R1_sx r1 hT.1 hM'.1.1.1 hT.2.1 hM.1.2.1 hx (by decide) (by decide)
  have sb := SBX_x hx (by decide) (by decide)
  have np : NPY [(12, 1), (12, 3), (12, 6)] [188 + 1, 188 + 2, 188 + 3, 188 + 4] := ⟨fun y => ⟨by simp, by simp⟩, ⟨by decide, by decide⟩, by decide, by decide, by decide, by decide⟩
  have dk : DKc A e w t K Sh := ⟨r1, ⟨(d1.2.1.1.x hX hc (by decide) (by decide)).sb sb, (d1.2.1.2.1.x hX hc (by decide) (by decide)).sb sb, d1.2.1.2.2.x hX hc (by decide) (fun a ha => by simp at ha; omega)⟩, d1.2.2.1.x hX EXT.rf hT.1.2.2.2.2.1.1 (KPs hM) hc (by decide) (by decide), d1.2.2.2.x hX hc (by decide) (fun a ha => by simp at ha; omega)⟩
  obtain ⟨-, -, w3, w4, w5⟩ := hw
  exact ⟨⟨A, t, K, Sh, V, W, hM', dk, WKD_x d2 hX hc np (fun y => by simp) ⟨⟨w3 183 1 (by omega), w3 183 3 (by omega)⟩, (w5 184 (by omega)).2, (w5 185 (by omega)).1⟩ EXT.rf ⟨hx.1 56 (by decide) (by decide), hx.1 60 (by decide) (by decide), hx.1 61 (by decide) (by decide)⟩ (fun b hb => hx.nod (Or.inl rfl) (by decide) (by have := hT.1.2.2.2.2.1; omega)) (by rw [hx.1 8 (by decide) (by decide)]; exact Int.le_refl _), DLK_x d3 hX d1.1.1.2.1 hc hr ⟨fun k => by simp, fun k => by simp, by decide⟩ (mm hM) (hx.1 8 (by decide) (by decide)) (hx.1 35 (by decide) (by decide)) (fun b _ _ => by rw [hx.row (f := 42) (by decide) (by decide) (by decide)])⟩, RQ_cx hX hc np hr (by decide) (by decide)⟩
theorem ps_seen (h : PAIR n s c) (hdd : 410 ≤ d) (hd2 : 400 ≤ d2) : cm iv L h0 d 150 [vr 307, vi k, vi x, vi i] s (qi fun r s' => ∀ h0', ck iv L h0' d2 30 [vr 64, vi k, vi x, vi i] c (qi (PQ (n + 1) c r s'))) := by
  have hP := h
  obtain ⟨d2, rfl⟩ : ∃ k, d2 = k + 6 := ⟨d2 - 6, by omega⟩
  obtain ⟨A, t, K, Sh, V, W, hM, hD⟩ := h
  have hT := hM.1.1
  obtain ⟨p, q, hp, ⟨v1, v2⟩, -⟩ := hD.2.1
  refine seen_ok hT.1.2.2.2.2.1.2 hM.2.2.2.2.1.1 (by omega) (fun g h0' => ?_) (fun g hn h0' => ?_) (fun w g hv hw h0' => ?_)
  · exact dseen_c (V := V) hD.1.1 hT.1 hp (fun g2 => by
      by_cases hv : hasV s
      · obtain ⟨g1, g2, g3⟩ := v1 hv
        exact ⟨g2.2.1, g3⟩
      · exact absurd (v2 hv) g2) (fun _ => same_pair hP SX.rf) (fun _ q => absurd q g) (fun _ q => absurd q g)
  · exact dseen_c (V := V) hD.1.1 hT.1 hp (fun g2 => absurd (v2 hn) g2) (fun q => absurd g q) (fun _ _ => same_pair hP SX.rf) (fun q => absurd (v2 hn) q)
  · obtain ⟨g1, g2, g3⟩ := v1 hv
    refine dseen_c (V := V) hD.1.1 hT.1 hp (fun _ => ⟨g2.2.1, g3⟩) (fun q => absurd g q) (fun q => absurd q g1) (fun _ _ e he => ?_)
    have := glm_pair hM hD (SX.eq hw (by decide) (by decide)) he
    exact ⟨rfl, PAIR_up this.1 (by omega), this.2⟩
theorem of_pair (hM : MS n s t K Sh V W) (hD : DKc A c s t K Sh ∧ WKD A c s V ∧ DLK A c s t W) (hx : SX [] [] s w) (ho : OFI A c e s t) : PAIR n w e ∧ RQ c e := by
  obtain ⟨d1, d2, d3⟩ := id hD
  have hX := d1.1.1.1
  have hT := hM.1.1
  obtain ⟨r1, tr, hc, hr⟩ := ho
  have hM' := MS_x hM hx (by decide) (by decide)
  have r1 := R1_sx r1 hT.1 hM'.1.1.1 hT.2.1 hM.1.2.1 hx (by decide) (by decide)
  have sb := SBX_x hx (by decide) (by decide)
  have np : NPY trY trR := ⟨fun y => ⟨by unfold trY; simp, by unfold trY; simp⟩, ⟨by decide, by decide⟩, by decide, by decide, by decide, by decide⟩
  exact oth_pair hM hD hM' hc hr hx np ⟨fun y => by unfold trY; simp, ⟨by decide, by decide⟩, fun k => by unfold trY; simp, fun k => by unfold trY; simp, by decide⟩ ⟨by decide, by decide⟩ (by decide) (by decide) ⟨r1, ⟨(d1.2.1.1.x hX hc (by decide) (by decide)).sb sb, (d1.2.1.2.1.x hX hc (by decide) (by decide)).sb sb, tr⟩, d1.2.2.1.x hX EXT.rf hT.1.2.2.2.2.1.1 (KPs hM) hc (by decide) (by decide), d1.2.2.2.x hX hc (by decide) (fun a ha => by unfold trR at ha; simp at ha; omega)⟩
theorem ps_offers (h : PAIR n s c) (hdd : 410 ≤ d) (hd2 : 400 ≤ d2) : cm iv L h0 d 119 [vr 307] s (qi fun r s' => ∀ h0', ck iv L h0' d2 22 [vr 64] c (qi (fun _ e => PAIR (n + 1) s' e ∧ RQ c e))) := by
  have hP := h
  obtain ⟨A, t, K, Sh, V, W, hM, hD⟩ := h
  have hT := hM.1.1
  refine offers_ok hT hM.1.2.1 (by omega) (fun w hw h0' => offers_c hD.1.1 hD.1.2.1.2.2 hT hM.1.2.1 (by omega) (fun r e he => ?_))
  have := of_pair hM hD hw he
  exact ⟨PAIR_up this.1 (by omega), this.2⟩
theorem ps_offer (h : PAIR n s c) (hdd : 410 ≤ d) (hd2 : 400 ≤ d2) : cm iv L h0 d 120 [vr 307, vi i, vi k] s (qi fun r s' => ∀ h0', ck iv L h0' d2 23 [vr 64, vi i, vi k] c (qi (fun _ e => PAIR (n + 1) s' e ∧ RQ c e))) := by
  have hP := h
  obtain ⟨A, t, K, Sh, V, W, hM, hD⟩ := h
  have hT := hM.1.1
  refine offer2_ok hT hM.1.2.1 (by omega) (fun w hw h0' => offer2_c hD.1.1 hD.1.2.1.2.2 hT hM.1.2.1 (by omega) (fun r e he => ?_))
  have := of_pair hM hD hw he
  exact ⟨PAIR_up this.1 (by omega), this.2⟩
/-- a new kind -/
theorem knd_pair (hM : MS n s t K Sh V W) (hD : DKc A c s t K Sh ∧ WKD A c s V ∧ DLK A c s t W) (hn : s.1 2 < 40) (hi : i = 3 ∨ i = 4) (ha : 0 ≤ a ∧ a < s.1 2) (hb : 0 ≤ b ∧ b < s.1 2) (hz : 1 + s.2 7 a + s.2 7 b ≤ 40) : PAIR n (knS s i a b) (knC c (s.1 2) i a b (1 + s.2 7 a + s.2 7 b)) ∧ RQ c (knC c (s.1 2) i a b (1 + s.2 7 a + s.2 7 b)) := by
  obtain ⟨d1, d2, d3⟩ := id hD
  have hX := d1.1.1.1
  have hT := hM.1.1
  have h8 := hT.1.2.2.2.2.1
  obtain ⟨r1, k1, s1⟩ := d1.1.kind hT.1 hT.2.1 hM.1.2.1 hn hi ha hb hz
  have hc := knC_x (n := s.1 2) (i := i) (a := a) (b := b) (z := 1 + s.2 7 a + s.2 7 b) hX
  have hr : RMk 0 0 c (knC c (s.1 2) i a b (1 + s.2 7 a + s.2 7 b)) := RMk.rf
  have e0 : eqx [2] [4, 5, 6, 7] s (knS s i a b) := eqx_us (eqx_ua (eqx_ua (eqx_ua (eqx_ua eqx.rf (by decide)) (by decide)) (by decide)) (by decide)) (by decide)
  have e2 : (knS s i a b).1 2 = s.1 2 + 1 := rfl
  generalize knS s i a b = w at r1 k1 s1 e0 e2 ⊢
  generalize knC c (s.1 2) i a b (1 + s.2 7 a + s.2 7 b) = e at r1 hc hr ⊢
  have sx : SX [2] [4, 5, 6, 7] s w := SX.eq e0 (by decide) (by decide)
  have e8 : w.1 8 = s.1 8 := e0.1 8 (by decide)
  have hN : NB w := fun x x0 x1 => by
    obtain ⟨g1, g2, g3, g4⟩ := hT.2.1 x x0 (by omega)
    rw [e0.2 9 (by decide), e0.2 10 (by decide), e0.2 11 (by decide), e2]
    exact ⟨g1, g2, g3, fun q => by have := g4 q; omega⟩
  have hA : AFT w t := ⟨s1, hN, by rw [e0.1 16 (by decide)]; exact hT.2.2⟩
  have hS : ShL w Sh := fun p p0 p6 => by
    obtain ⟨g1, g2⟩ := hM.2.2.1.2 p p0 p6
    unfold SE
    rw [e0.2 37 (by decide), e0.2 38 (by decide), e0.2 39 (by decide), e0.2 40 (by decide), e2]
    refine ⟨g1, fun u hu => ?_⟩
    obtain ⟨f1, f2, f3⟩ := g2 u hu
    exact ⟨f1, f2, fun k x hk => ⟨(f3 k x hk).1, bearOk_up (f3 k x hk).2 (by omega)⟩⟩
  have hM' : MS n w t K Sh V W := MS_g hM sx (by decide) (by decide) hA k1 (BX_x hM.2.1.1 sx (by decide) (by decide) (by omega)) (hM.2.1.2.x sx (by decide)) hS
  have sb := SBX_x sx (by decide) (by decide)
  have np : NPY kiY kiR := ⟨fun y => ⟨by unfold kiY; simp, by unfold kiY; simp⟩, ⟨by decide, by decide⟩, by decide, by decide, by decide, by decide⟩
  exact oth_pair hM hD hM' hc hr sx np ⟨fun y => by unfold kiY; simp, ⟨by decide, by decide⟩, fun k => by unfold kiY; simp, fun k => by unfold kiY; simp, by decide⟩ ⟨by decide, by decide⟩ (by decide) (by decide) ⟨r1, ⟨(d1.2.1.1.x hX hc (by decide) (by decide)).sb sb, (d1.2.1.2.1.x hX hc (by decide) (by decide)).sb sb, d1.2.1.2.2.x hX hc (by decide) (fun a ha => by unfold kiR at ha; simp at ha; omega)⟩, d1.2.2.1.x hX EXT.rf h8.1 (KPs hM) hc (by decide) (by decide), d1.2.2.2.x hX hc (by decide) (fun a ha => by unfold kiR at ha; simp at ha; omega)⟩
theorem ps_kind (h : PAIR n s c) (hdd : 410 ≤ d) (hd2 : 400 ≤ d2) : cm iv L h0 d 68 [vr 307, vi z, vi a, vi b] s (qi fun r s' => ∀ h0', ck iv L h0' d2 2 [vr 64, vi z, vi a, vi b] c (qi (PQ (n + 1) c r s'))) := by
  have hP := h
  obtain ⟨d, rfl⟩ : ∃ k, d = k + 2 := ⟨d - 2, by omega⟩
  obtain ⟨A, t, K, Sh, V, W, hM, hD⟩ := h
  have hT := hM.1.1
  have hn := hM.1.2.1.1
  refine kind_ok hM.1.2.1 (fun hb h0' => ?_) (fun hb h0' => ?_)
  · exact kind_c hD.1.1.1.1 hD.1.1.2.2.1 hM.1.2.1 (by omega) (fun _ => same_pair hP SX.rf) (fun q => absurd hb q) (fun q => absurd hb q)
  · refine kind_c hD.1.1.1.1 hD.1.1.2.2.1 hM.1.2.1 (by omega) (fun q => absurd q hb) (fun _ g => ?_) (fun _ g1 g2 => ?_)
    · have : kndU s z a b = s := by
        unfold kndU
        by_cases q : 0 ≤ kfs s (kis z) a b
        · rw [if_pos q]
        · rw [if_neg q, if_pos (g.resolve_left q)]
      rw [this]
      exact same_pair hP SX.rf
    · have e1 : kndU s z a b = knS s (kis z) a b := by
        unfold kndU
        rw [if_neg g1, if_neg (by omega)]
        rfl
      have e2 : kndA s z a b = s.1 2 := by
        unfold kndA
        rw [if_neg g1, if_neg (by omega)]
      rw [e1, e2]
      unfold kbad at hb
      have := knd_pair (i := kis z) hM hD g2 (by unfold kis; split <;> omega) (a := a) (b := b) (by omega) (by omega) (by omega)
      exact ⟨rfl, PAIR_up this.1 (by omega), this.2⟩
end
end
