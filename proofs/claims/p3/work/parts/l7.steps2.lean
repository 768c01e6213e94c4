/-! Steps of the pair: undo, fill, shelve. -/
section
variable {iv : List (Int × Int)} {L : Nat} {h0 : MH} {A A' : Int → Nat} {c e : SC} {s s1 w v : SM} {t t' : Term} {n n' : Int} {K K' : List Snap} {Sh Sh' : Int → Option Snap} {V : Term} {W : List (Int × Int)} {ey ef : List Nat} {ys : List (Nat × Nat)} {rs : List Nat} {d d2 : Nat} {b i so z k f : Int}
theorem unY_w : NPY unY acR ∧ (∀ y, (11, y) ∉ unY) ∧ ∀ k : Nat, (k, 11) ∉ unY := ⟨⟨fun y => ⟨by unfold unY acY; simp, by unfold unY acY; simp⟩, ⟨by decide, by decide⟩, by decide, by decide, by decide, by decide⟩, fun y => by unfold unY acY; simp, fun k => by unfold unY acY; simp⟩
/-- over a change of the desk that is no act -/
theorem oth_pair (hM : MS n s t K Sh V W) (hD : DKc A c s t K Sh ∧ WKD A c s V ∧ DLK A c s t W) (hM' : MS n' w t K Sh' V W) (hx : CX ys rs c e) (hr : RMk 0 0 c e) (sx : SX ey ef s w) (np : NPY ys rs) (hy : (∀ y, (11, y) ∉ ys) ∧ ((12, 1) ∉ ys ∧ (12, 3) ∉ ys) ∧ (∀ k, (k, 11) ∉ ys) ∧ (∀ k, (k, 12) ∉ ys) ∧ (1, 15) ∉ ys) (hrs : 184 ∉ rs ∧ 185 ∉ rs) (hey : 8 ∉ ey ∧ 35 ∉ ey ∧ 56 ∉ ey ∧ 60 ∉ ey ∧ 61 ∉ ey) (hef : 9 ∉ ef ∧ 42 ∉ ef) (dk : DKc A e w t K Sh') : PAIR n' w e ∧ RQ c e := by
  obtain ⟨d1, d2, d3⟩ := hD
  have hX := d1.1.1.1
  have e8 := sx.1 8 (by decide) hey.1
  have hB := hM.1.1.1.2.2.2.2.1
  exact ⟨⟨A, t, K, Sh', V, W, hM', dk, WKD_x d2 hX hx np hy.1 (w183 hX hx hy.2.1 hrs) EXT.rf ⟨sx.1 56 (by decide) hey.2.2.1, sx.1 60 (by decide) hey.2.2.2.1, sx.1 61 (by decide) hey.2.2.2.2⟩ (fun b hb => sx.nod (Or.inl rfl) hef.1 (by omega)) (by omega), DLK_x d3 hX d1.1.1.2.1 hx hr hy.2.2 (mm hM) e8 (sx.1 35 (by decide) hey.2.1) (fun b _ _ => by rw [sx.row (f := 42) (by decide) hef.2 (by decide)])⟩, RQ_cx hX hx np hr (by decide) (by decide)⟩
theorem ps_undo (h : PAIR n s c) (hd : 400 ≤ d) (hd2 : 400 ≤ d2) : cm iv L h0 (d + 1) 101 [vr 307] s (qi fun r s' => ∀ h0', ck iv L h0' d2 21 [vr 64] c (qi (PQ (n + 1) c r s'))) := by
  obtain ⟨A, t, K, Sh, V, W, hM, hD⟩ := h
  have hT := hM.1.1
  have hB := hT.1.2.2.2.2.1
  refine undo_ok hM.2.2.1.1 hB (fun hk h0' => ?_) (fun K0 u v hk hx hS hKL h0' => ?_)
  · exact undo_c hD.1.1 hT hM.1.2.1 hD.1.2.2.1 (KPs hM) (by omega) (fun _ => ⟨rfl, PAIR_up ⟨A, t, K, Sh, V, W, hM, hD⟩ (by omega), RQ.rf⟩) (fun K1 u1 q => absurd (hk.symm.trans q) (by simp))
  · refine undo_c hD.1.1 hT hM.1.2.1 hD.1.2.2.1 (KPs hM) (by omega) (fun q => absurd (hk.symm.trans q) (by simp)) (fun K1 u1 q e ha => ?_)
    obtain ⟨q1, q2⟩ := List.append_inj' (hk.symm.trans q) rfl
    subst q1
    have q2 : u = u1 := by injection q2
    subst q2
    obtain ⟨d1, d2', d3⟩ := hD
    have hX := d1.1.1.1
    have hM' := MS_und hM hk hx hS hKL
    subst hk
    have hDK := DKc.und d1 hM.2.1.1 ha
    obtain ⟨-, u2, u3, -, u5, u6⟩ := ha
    have hKu : KP s u := KPs hM u (by simp)
    have hU := unS_aft hT.2.1 hKu hB
    have e8 : v.1 8 = s.1 8 := (hx.1 8 (by decide) (by decide)).trans rfl
    have nod : ∀ f, (f = 9 ∨ f = 10 ∨ f = 11) → ∀ x, x < s.1 8 → v.2 f x = (unS s u).2 f x := fun f hf x hx' => by
      rw [hx.nod (f := f) (by omega) (by simp; omega) (by omega)]
      show (undU s u).2 f x = (if f = 12 ∨ f = 13 ∨ f = 14 then u.2.2 f else (undU s u).2 f) x
      rw [if_neg (by omega)]
    have KIu : KIs (unS s u) := KIs_e hM.1.2.1 rfl ⟨unS_o (by decide), unS_o (by decide), unS_o (by decide), unS_o (by decide)⟩
    have r1 : R1 A e v u.1 := R1_cg hDK.1 hU.1 hS hU.2.1 KIu (by rw [e8]; rfl) ((hx.1 16 (by decide) (by decide)).trans rfl) ((hx.1 2 (by decide) (by decide)).trans rfl) (fun x x0 x1 => ⟨nod 9 (by omega) x x1, nod 10 (by omega) x x1, nod 11 (by omega) x x1⟩) (fun k k0 k1 => by
      have hk2 : (unS s u).1 2 = s.1 2 := rfl
      have hn := hM.1.2.1.1
      rw [unS_o (f := 4) (by decide), unS_o (f := 5) (by decide), unS_o (f := 6) (by decide), unS_o (f := 7) (by decide)]
      have hi : ∀ f, (f = 4 ∨ f = 5 ∨ f = 6 ∨ f = 7) → ¬ scI f k := fun f q => by unfold scI; omega
      have un : ∀ f, f ≠ 10 → (undU s u).2 f k = s.2 f k := fun f hf => by
        show (if f = 10 ∧ k ∈ fl u.1 then u.2.2 10 k else s.2 f k) = s.2 f k
        rw [if_neg (fun q => hf q.1)]
      rw [hx.2 4 (by decide) (by decide) k (hi 4 (by decide)), hx.2 5 (by decide) (by decide) k (hi 5 (by decide)), hx.2 6 (by decide) (by decide) k (hi 6 (by decide)), hx.2 7 (by decide) (by decide) k (hi 7 (by decide)), un 4 (by decide), un 5 (by decide), un 6 (by decide), un 7 (by decide)]
      exact ⟨rfl, rfl, rfl, rfl⟩)
    have un2 : ∀ f, f ≠ 10 → (undU s u).2 f = s.2 f := fun f hf => by
      funext k
      show (if f = 10 ∧ k ∈ fl u.1 then u.2.2 10 k else s.2 f k) = s.2 f k
      rw [if_neg (fun q => hf q.1)]
    have sb : SBX (unS s u) v := ⟨⟨(hx.1 71 (by decide) (by decide)).trans rfl, fun i _ _ => by rw [hx.row (f := 72) (by decide) (by decide) (by decide), unS_o (by decide), un2 72 (by decide)]⟩, (hx.1 0 (by decide) (by decide)).trans rfl, fun f _ _ => by rw [hx.row (f := 1) (by decide) (by decide) (by decide), unS_o (by decide), un2 1 (by decide)]⟩
    have hDK' : DKc A e v u.1 K0 Sh := ⟨r1, ⟨hDK.2.1.1.sb sb, hDK.2.1.2.1.sb sb, hDK.2.1.2.2⟩, hDK.2.2⟩
    have e35 : v.1 35 ≠ 0 := by
      rw [hx.1 35 (by decide) (by decide)]
      show (1 : Int) ≠ 0
      decide
    refine ⟨rfl, PAIR_up ⟨A, u.1, K0, Sh, V, W, hM', hDK', WKD_x d2' hX u2 unY_w.1 unY_w.2.1 (w183 hX u2 (by decide) acR_w.2) EXT.rf ⟨(hx.1 56 (by decide) (by decide)).trans rfl, (hx.1 60 (by decide) (by decide)).trans rfl, (hx.1 61 (by decide) (by decide)).trans rfl⟩ (fun b hb => by rw [nod 9 (by omega) b hb, unS_o (by decide)]) (by omega), DLK_und d3 d1.1.1.2.1 u2 u3 u5 e35 e8 u6⟩ (by omega), RQ_cx hX u2 unY_w.1 u3 (by decide) (by decide)⟩
theorem ps_shelve (h : PAIR n s c) (hd : 400 ≤ d) (hd2 : 400 ≤ d2) : cm iv L h0 d 113 [vr 307, vi z] s (qi fun r s' => ∀ h0', ck iv L h0' d2 19 [vr 64, vi z] c (qi (PQ (n + 1) c r s'))) := by
  obtain ⟨A, t, K, Sh, V, W, hM, hD⟩ := h
  have hT := hM.1.1
  have hX := hD.1.1.1.1
  refine shelve_ok hT.1 hT.2.1 hM.1.2.2.1 hT.2.2 hM.2.2.1.2 (by omega) (fun hp h0' => ?_) (fun hp w hx hS h0' => ?_)
  · exact shelve_c hD.1.1 hT hD.1.2.2.2 (by omega) (fun _ => ⟨rfl, PAIR_up ⟨A, t, K, Sh, V, W, hM, hD⟩ (by omega), RQ.rf⟩) (fun q => absurd q hp)
  · refine shelve_c hD.1.1 hT hD.1.2.2.2 (by omega) (fun q => absurd hp q) (fun _ e ha hx2 hr2 => ?_)
    have hM' : MS n w t K (shP Sh z (sq (s.1 16) t, s)) V W := MS_g hM hx (by decide) (by decide) (hT.x hx (by decide) (by decide)) (KIs_x hM.1.2.1 hx (by decide) (by decide)) (BX_x hM.2.1.1 hx (by decide) (by decide) (by rw [hx.1 8 (by decide) (by decide)]; exact Int.le_refl _)) (hM.2.1.2.x hx (by decide)) hS
    have hDK := DKc.shl hD.1 hT.1 hM.2.1.1 (KPs hM) hx2 ha
    have sb := SBX_x hx (by decide) (by decide)
    have r1 := R1_sx hDK.1 hT.1 hM'.1.1.1 hT.2.1 hM.1.2.1 hx (by decide) (by decide)
    have np : NPY shY shR := ⟨fun y => ⟨by unfold shY; simp, by unfold shY; simp⟩, ⟨by decide, by decide⟩, by decide, by decide, by decide, by decide⟩
    have := oth_pair hM hD hM' hx2 hr2 hx np ⟨fun y => by unfold shY; simp, ⟨by decide, by decide⟩, fun k => by unfold shY; simp, fun k => by unfold shY; simp, by decide⟩ ⟨by decide, by decide⟩ (by decide) (by decide) ⟨r1, ⟨hDK.2.1.1.sb sb, hDK.2.1.2.1.sb sb, hDK.2.1.2.2⟩, hDK.2.2⟩
    exact ⟨rfl, PAIR_up this.1 (by omega), this.2⟩
end
