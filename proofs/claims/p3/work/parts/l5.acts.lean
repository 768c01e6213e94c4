/-! Acts, for the pair: what each of them leaves. -/
def ACE (s s1 : SM) : Prop := eqx [8, 15, 16] [9, 10, 11, 12, 13, 14] s s1 ∧ s.1 8 ≤ s1.1 8 ∧ (∀ y, y < s.1 8 → s1.2 9 y = s.2 9 y) ∧ NV s1
section
variable {iv : List (Int × Int)} {L : Nat} {h0 : MH} {A A' : Int → Nat} {c e : SC} {s s1 w v : SM} {t t' : Term} {n : Int} {K K' : List Snap} {Sh : Int → Option Snap} {V : Term} {W : List (Int × Int)} {ey ef : List Nat} {ys : List (Nat × Nat)} {rs : List Nat} {d p q : Nat} {b i so z k : Int}
theorem NV_q {ys : List Nat} (h : NV s) (hx : eqx ys [12, 13, 14] s w) (h8 : w.1 8 = s.1 8) : NV w := NV_ag h h8 (fun y _ _ => by rw [hx.2 9 (by decide), hx.2 10 (by decide), hx.2 11 (by decide)]; exact ⟨rfl, rfl, rfl⟩)
theorem NV_born (h : NV s) : NV (bornU s so z k) := NV_new (so := so) (v := z) (k := k) h rfl bornU_at (fun y _ y1 => (bornU_o y y1).1)
theorem NV_hl (h : NV s) : NV (hlU b i s) := NV_q (ys := []) (NV_born (so := 0) (z := -9) (k := -9) h) (partU_e (s := bornU s 0 (-9) (-9)) (b := b) (i := i) (c := s.1 8)) rfl
theorem NV_hls : ∀ (m : Nat) (i : Int) (s : SM), NV s → NV (hlsU b m i s) := by
  intro m
  induction m with
  | zero => intro i s h; exact h
  | succ m ih => intro i s h; exact ih (i + 1) (hlU b i s) (NV_hl h)
theorem NV_repl {o : Int} (h : NV s) : NV (replU s o b) := NV_q h replU_e (replU_e.1 8 (by decide))
theorem NV_us {y : Nat} (h : NV s) (hy : y ≠ 8) : NV (us s y z) := NV_ag h (if_neg (fun q => hy q.symm)) (fun _ _ _ => ⟨rfl, rfl, rfl⟩)
theorem take_ac (h : NV s) : ACE s (tkU s) := by
  have e1 := bornU_e (s := s) (so := 0) (v := -9) (k := -9)
  have e2 := replU_e (s := bornU s 0 (-9) (-9)) (o := s.1 16) (c := s.1 8)
  refine ⟨eqx_us ((e1.up (by decide) (by decide)).tr (e2.up (by decide) (by decide))) (by decide), ?_, fun y hy => ?_, NV_us (NV_repl (NV_born h)) (by decide)⟩
  · show s.1 8 ≤ (replU (bornU s 0 (-9) (-9)) (s.1 16) (s.1 8)).1 8
    rw [e2.1 8 (by decide)]
    show s.1 8 ≤ s.1 8 + 1
    omega
  · show (replU (bornU s 0 (-9) (-9)) (s.1 16) (s.1 8)).2 9 y = s.2 9 y
    rw [e2.2 9 (by decide)]
    exact (bornU_o y hy).1.1
theorem put_ac {vv : Int} (h : NV s) : ACE s (putU s so vv k) := by
  have e1 := bornU_e (s := s) (so := so) (v := vv) (k := k)
  have e2 := replU_e (s := bornU s so vv k) (o := s.1 16) (c := s.1 8)
  have b9 : ∀ y, y < s.1 8 → (replU (bornU s so vv k) (s.1 16) (s.1 8)).2 9 y = s.2 9 y := fun y hy => by
    rw [e2.2 9 (by decide)]
    exact (bornU_o y hy).1.1
  have e12 : eqx [8, 15, 16] [9, 10, 11, 12, 13, 14] s (replU (bornU s so vv k) (s.1 16) (s.1 8)) := (e1.up (by decide) (by decide)).tr (e2.up (by decide) (by decide))
  have b8 : (replU (bornU s so vv k) (s.1 16) (s.1 8)).1 8 = s.1 8 + 1 := e2.1 8 (by decide)
  have hn : NV (replU (bornU s so vv k) (s.1 16) (s.1 8)) := NV_repl (NV_born h)
  unfold putU
  by_cases e : s.2 9 (s.1 16) = 0
  · rw [if_pos e]
    have e3 := hlsU_e (s.1 8) (pO so).toNat 0 (replU (bornU s so vv k) (s.1 16) (s.1 8))
    refine ⟨eqx_us (e12.tr (e3.1.up (by decide) (by decide))) (by decide), ?_, fun y hy => ?_, NV_us (NV_hls _ _ _ hn) (by decide)⟩
    · show s.1 8 ≤ (hlsU (s.1 8) (pO so).toNat 0 (replU (bornU s so vv k) (s.1 16) (s.1 8))).1 8
      rw [e3.2.1, b8]
      omega
    · show (hlsU (s.1 8) (pO so).toNat 0 (replU (bornU s so vv k) (s.1 16) (s.1 8))).2 9 y = s.2 9 y
      rw [e3.2.2 y (by omega)]
      exact b9 y hy
  · rw [if_neg e]
    have e4 := partU_e (s := replU (bornU s so vv k) (s.1 16) (s.1 8)) (b := s.1 8) (i := 0) (c := s.1 16)
    have e3 := hlsU_e (s.1 8) (pO so - 1).toNat 1 (partU (replU (bornU s so vv k) (s.1 16) (s.1 8)) (s.1 8) 0 (s.1 16))
    have c8 : (partU (replU (bornU s so vv k) (s.1 16) (s.1 8)) (s.1 8) 0 (s.1 16)).1 8 = s.1 8 + 1 := (e4.1 8 (by decide)).trans b8
    refine ⟨eqx_us ((e12.tr (e4.up (by decide) (by decide))).tr (e3.1.up (by decide) (by decide))) (by decide), ?_, fun y hy => ?_, NV_us (NV_hls _ _ _ (NV_q (ys := []) hn e4 (e4.1 8 (by decide)))) (by decide)⟩
    · show s.1 8 ≤ (hlsU (s.1 8) (pO so - 1).toNat 1 (partU (replU (bornU s so vv k) (s.1 16) (s.1 8)) (s.1 8) 0 (s.1 16))).1 8
      rw [e3.2.1, c8]
      omega
    · show (hlsU (s.1 8) (pO so - 1).toNat 1 (partU (replU (bornU s so vv k) (s.1 16) (s.1 8)) (s.1 8) 0 (s.1 16))).2 9 y = s.2 9 y
      rw [e3.2.2 y (by omega), e4.2 9 (by decide)]
      exact b9 y hy
theorem unwrap_ac (h : NV s) : ACE s (uwU s i) := by
  have e2 := replU_e (s := s) (o := s.1 16) (c := s.2 14 (3 * s.1 16 + i))
  refine ⟨eqx_us (e2.up (by decide) (by decide)) (by decide), ?_, fun y hy => ?_, NV_us (NV_repl h) (by decide)⟩
  · show s.1 8 ≤ (replU s (s.1 16) (s.2 14 (3 * s.1 16 + i))).1 8
    rw [e2.1 8 (by decide)]
    exact Int.le_refl _
  · show (replU s (s.1 16) (s.2 14 (3 * s.1 16 + i))).2 9 y = s.2 9 y
    rw [e2.2 9 (by decide)]
theorem write_ac (h : NV s) (hc : 0 ≤ s.1 16 ∧ s.1 16 < s.1 8) (hg : wriOk s z) : ACE s (ua s 10 (s.1 16) z) :=
  ⟨eqx_ua eqx.rf (by decide), Int.le_refl _, fun y _ => by show (if (9 : Nat) = 10 ∧ y = s.1 16 then z else s.2 9 y) = s.2 9 y; rw [if_neg (fun q => absurd q.1 (by decide))], NV_write h hc hg⟩
theorem move_ac (h : NV s) : ACE s (mvU s b) := by
  have e1 := bornU_e (s := s) (so := 0) (v := -9) (k := -9)
  have e2 := replU_e (s := bornU s 0 (-9) (-9)) (o := s.1 16) (c := s.1 8)
  have e3 := replU_e (s := replU (bornU s 0 (-9) (-9)) (s.1 16) (s.1 8)) (o := b) (c := s.1 16)
  refine ⟨((e1.up (by decide) (by decide)).tr (e2.up (by decide) (by decide))).tr (e3.up (by decide) (by decide)), ?_, fun y hy => ?_, NV_repl (NV_repl (NV_born h))⟩
  · show s.1 8 ≤ (replU (replU (bornU s 0 (-9) (-9)) (s.1 16) (s.1 8)) b (s.1 16)).1 8
    rw [e3.1 8 (by decide), e2.1 8 (by decide)]
    show s.1 8 ≤ s.1 8 + 1
    omega
  · show (replU (replU (bornU s 0 (-9) (-9)) (s.1 16) (s.1 8)) b (s.1 16)).2 9 y = s.2 9 y
    rw [e3.2 9 (by decide), e2.2 9 (by decide)]
    exact (bornU_o y hy).1.1
theorem rename_ac (h : NV s) (hT : AFT s t) (hg : renOk s t z) : ACE s (rnU s t z) := by
  have e9 : ∀ f, f ≠ 10 → (rnU s t z).2 f = s.2 f := fun f hf => rnU_o hf
  refine ⟨⟨fun y _ => rfl, fun f hf => e9 f (fun q => hf (by rw [q]; decide))⟩, Int.le_refl _, fun y _ => by rw [e9 9 (by decide)], fun x x0 x1 => ?_⟩
  have h1 := h x x0 x1
  rw [e9 9 (by decide), e9 11 (by decide)]
  refine ⟨?_, h1.2⟩
  show nvl (s.2 9 x) (if (10 : Nat) = 10 ∧ (x = s.1 16 ∨ (x ∈ fl t ∧ isB s x = true)) then z else s.2 10 x) = (if (10 : Nat) = 10 ∧ (x = s.1 16 ∨ (x ∈ fl t ∧ isB s x = true)) then z else s.2 10 x)
  by_cases q : x = s.1 16 ∨ (x ∈ fl t ∧ isB s x = true)
  · rw [if_pos ⟨rfl, q⟩]
    have hs : s.2 9 x = 3 ∨ s.2 9 x = 8 ∨ s.2 9 x = 10 := by
      rcases q with q | ⟨-, q⟩
      · rw [q]; exact Or.inr hg.2.1
      · unfold isB at q
        simp only [Bool.and_eq_true, decide_eq_true_eq] at q
        exact Or.inl q.1
    unfold nvl
    rw [if_pos (by omega)]
  · rw [if_neg (fun w => q w.2)]
    exact h1.1
/-- where the nodes of the new sheet come from -/
theorem take_in (h : AFT s t) {x : Int} (hx : x ∈ fl (tkT s t)) : x ∈ fl t ∨ s.1 8 ≤ x := by
  have hB := h.1.2.2.2.2.1
  rcases mem_rpT0 hx with q | q
  · exact Or.inl q
  · have := List.mem_singleton.mp q
    right; omega
theorem unwrap_in (h : AFT s t) (hi : uwOk s i) {x : Int} (hx : x ∈ fl (uwT s t i)) : x ∈ fl t ∨ s.1 8 ≤ x := by
  have hS := h.1
  obtain ⟨b1, b2, b3, b4, b5, b6, b7⟩ := sq_ok hS.1 hS.2.1 hS.2.2.1 h.2.2
  rcases mem_rpT hS h.2.2 hx with q | q
  · exact Or.inl q
  · exact Or.inl (b4 x ((prt_ok (sq (s.1 16) t) b1 b5 hi.1 (by have := b2; unfold full at this; rw [this, b3]; exact hi.2)).2.2.2.1 x q))
theorem put_in {vv : Int} (h : AFT s t) (hg : putOk s t so vv k) {x : Int} (hx : x ∈ fl (putT s t so)) : x ∈ fl t ∨ s.1 8 ≤ x := by
  rcases put_mem h.1 h.2.2 hg hx with q | q | q
  · exact Or.inl q
  · right; omega
  · right; omega
theorem move_in (h : AFT s t) {x : Int} (hx : x ∈ fl (mvT s t b)) : x ∈ fl t ∨ s.1 8 ≤ x := by
  have hS := h.1
  have hB := hS.2.2.2.2.1
  rcases mem_rpT0 hx with q | q
  · rcases mem_rpT0 q with q | q
    · exact Or.inl q
    · have := List.mem_singleton.mp q
      right; omega
  · exact Or.inl ((sq_ok hS.1 hS.2.1 hS.2.2.1 h.2.2).2.2.2.1 x q)
theorem NVK_act (h : NVK s K) (hN : NV s) (hS : SHT s t) (hK : KL s K) (h9 : ∀ x, x < s.1 8 → v.2 9 x = s.2 9 x) : NVK v (push K (t, s)) := fun u hu x hx' => by
  have hq := NVK_push h hN hS u hu x hx'
  have hub : x < s.1 8 := by
    unfold push at hu
    rcases List.mem_append.mp hu with q | q
    · have hq : u ∈ K := by
        split at q
        · exact List.mem_of_mem_tail q
        · exact q
      obtain ⟨i, hi, rfl⟩ := List.mem_iff_getElem.mp hq
      exact (AT_mem K[i].1 (hK.2.2 i K[i] (List.getElem?_eq_getElem hi)).2.1.1 x hx').1.2
    · rw [List.mem_singleton.mp q] at hx'
      exact (hS.lt hx').2.1
  rw [h9 x hub]
  exact hq
theorem acR_w : NPY acY acR ∧ 184 ∉ acR ∧ 185 ∉ acR := ⟨⟨fun y => ⟨by unfold acY; simp, by unfold acY; simp⟩, ⟨by decide, by decide⟩, by decide, by decide, by decide, by decide⟩, by decide, by decide⟩
/-- an act, on both sides -/
theorem act_pair (hM : MS n s t K Sh V W) (hD : DKc A c s t K Sh ∧ WKD A c s V ∧ DLK A c s t W) (hdone : DONE s t K 0 s1 v) (hA : AFT s1 t') (hc : ACE s s1) (hin : ∀ x, x ∈ fl t' → x ∈ fl t ∨ s.1 8 ≤ x) (ha : ACT A c s t K e s1 t') : PAIR n v e ∧ RQ c e := by
  obtain ⟨⟨a1, a2, a3, a4⟩, ⟨b1, b2⟩, ⟨c1, c2⟩, -⟩ := id hM
  obtain ⟨hd, hkl⟩ := hdone
  obtain ⟨x1, x2, x3, x4⟩ := hc
  obtain ⟨d1, d2, d3⟩ := hD
  have hB1 := hA.1.2.2.2.2.1
  have xs : SX [8, 15, 16] [9, 10, 11, 12, 13, 14] s s1 := SX.eq x1 (fun y h => Or.inr h) (fun y h => Or.inr h)
  have xv : SX [24, 35] [25, 26, 27, 28, 29] s1 v := (SX.eq (s := s1) (eqx_us eqx.rf (ys := [35]) (fs := []) (y := 35) (z := chg (s.1 35) 0) (by decide)) (by decide) (by decide)).tr (hd.up (by decide) (by decide))
  have xsv : SX [8, 15, 16, 24, 35] [9, 10, 11, 12, 13, 14, 25, 26, 27, 28, 29] s v := (xs.up (by decide) (by decide)).tr (xv.up (by decide) (by decide))
  have e8 : v.1 8 = s1.1 8 := xv.1 8 (by decide) (by decide)
  have e35 : v.1 35 ≠ 0 := by
    rw [hd.1 35 (by decide) (by decide)]
    show chg (s.1 35) 0 ≠ 0
    unfold chg
    split <;> simp
  have h9 : ∀ x, x < s.1 8 → v.2 9 x = s.2 9 x := fun x hx => by
    rw [xv.nod (f := 9) (Or.inl rfl) (by decide) (by omega)]
    exact x3 x hx
  have hAv : AFT v t' := hA.x xv (by decide) (by decide)
  have hM' : MS n v t' (push K (t, s)) Sh V W := MS_act hM xsv (by omega) hAv ⟨x4.x xv hB1.2 (by decide) (by decide), NVK_act a4 a3 a1.1 c1 h9⟩ hkl e35
  obtain ⟨A', g1, g2, g3, g4, g5, g6⟩ := DKc.act d1 b1 (SBX_x xs (by decide) (by decide)) ha
  have sb := SBX_x xv (by decide) (by decide)
  have hX := d1.1.1.1
  have hKIs1 : KIs s1 := KIs_x a2 xs (by decide) (by decide)
  have r1 : R1 A' e v t' := R1_sx g1.1 hA.1 hAv.1 hA.2.1 hKIs1 xv (by decide) (by decide)
  have hDK : DKc A' e v t' (push K (t, s)) Sh := ⟨r1, ⟨g1.2.1.1.sb sb, g1.2.1.2.1.sb sb, g1.2.1.2.2⟩, g1.2.2⟩
  refine ⟨⟨A', t', push K (t, s), Sh, V, W, hM', hDK, WKD_x d2 hX g5 acR_w.1 (fun y => by unfold acY; simp) (w183 hX g5 (by decide) acR_w.2) g2 ⟨xsv.1 56 (by decide) (by decide), xsv.1 60 (by decide) (by decide), xsv.1 61 (by decide) (by decide)⟩ (fun b hb => h9 b hb) (by omega), DLK_act d3 d1.1.1.2.1 r1.1.2.1 g2 g5 g6 ⟨by have := a1.1.2.2.2.2.1; omega, by omega⟩ g4 e35 (mm hM) (fun x hx => ⟨by have := hAv.1.lt hx; omega, hin x hx⟩)⟩, RQ_cx hX g5 acR_w.1 g3 (by decide) (by decide)⟩
end
