/-! undo() by the desk; states that agree. -/
section
variable {iv : List (Int × Int)} {L : Nat} {h0 : MH} {A A' : Int → Nat} {c e : SC} {s s' w : SM} {t : Term} {d : Nat} {P : Int → Prop} {Q : Int → Int → Prop} {K : List Snap}
/-- the link stands for all states that agree -/
theorem R1_cg (h : R1 A c s t) (hS : SHT s t) (hS' : SHT w t) (hB : NB s) (hK : KIs s) (h8 : w.1 8 = s.1 8) (h16 : w.1 16 = s.1 16) (h2 : w.1 2 = s.1 2) (hr : ∀ x, 0 ≤ x → x < s.1 8 → w.2 9 x = s.2 9 x ∧ w.2 10 x = s.2 10 x ∧ w.2 11 x = s.2 11 x) (hk : ∀ k, 0 ≤ k → k < s.1 2 → w.2 4 k = s.2 4 k ∧ w.2 5 k = s.2 5 k ∧ w.2 6 k = s.2 6 k ∧ w.2 7 k = s.2 7 k) : R1 A c w t := by
  obtain ⟨⟨hX, hN, hH, hL⟩, ⟨hc, hb8⟩, hI, hJ⟩ := h
  have hjd : jdg w t = jdg s t := jdg_un hS.w hS'.w (fun x hx => hr x (hS.m _ hx).1 (hS.m _ hx).2) (fun x hx q => by
    have hq := (hB x (hS.m _ hx).1 (hS.m _ hx).2).2.2.2 q
    rw [kks_told hq, kks_told (by rw [h2]; exact hq)]
    exact kt_lt hK (fun k k0 kn => ⟨(hk k k0 kn).1, (hk k k0 kn).2.1, (hk k k0 kn).2.2.1⟩) _ hq.1 hq.2)
  refine ⟨⟨hX, ⟨fun b hb => hN.1 b (by rw [h8] at hb; exact hb), fun b b0 b1 => ?_⟩, ⟨fun x hx => ?_, hH.2⟩, hL⟩, ⟨by rw [h16]; exact hc, by rw [h8]; exact hb8⟩, ⟨by rw [h2]; exact hI.1, fun k k0 kn => ?_⟩, ?_⟩
  · rw [h8] at b1
    obtain ⟨e1, e2, e3⟩ := hr b b0 b1
    rw [e1, e2, e3]
    exact hN.2 b b0 b1
  · obtain ⟨q1, q2, q3⟩ := hH.1 x hx
    obtain ⟨u1, u2⟩ := hS.w.ul hS'.w hx
    have e9 := (hr x (hS.m _ hx).1 (hS.m _ hx).2).1
    rw [u1, u2, e9]
    exact ⟨q1, q2, fun i i0 i1 => by rw [hS.w.pa hS'.w hx i0 i1]; exact q3 i i0 i1⟩
  · rw [h2] at kn
    obtain ⟨e1, e2, e3, e4⟩ := hk k k0 kn
    rw [e1, e2, e3, e4]
    exact hI.2 k k0 kn
  · unfold JUc
    rw [hjd]
    exact hJ
theorem R1_sx {ey ef : List Nat} (h : R1 A c s t) (hS : SHT s t) (hS' : SHT w t) (hB : NB s) (hK : KIs s) (hx : SX ey ef s w) (hy : 2 ∉ ey ∧ 8 ∉ ey ∧ 16 ∉ ey) (hf : 4 ∉ ef ∧ 5 ∉ ef ∧ 6 ∉ ef ∧ 7 ∉ ef ∧ 9 ∉ ef ∧ 10 ∉ ef ∧ 11 ∉ ef) : R1 A c w t := by
  have h8 := hS.2.2.2.2.1
  have hn := hK.1
  refine R1_cg h hS hS' hB hK (hx.1 8 (by decide) hy.2.1) (hx.1 16 (by decide) hy.2.2) (hx.1 2 (by decide) hy.1) (fun x x0 x1 => ?_) (fun k k0 kn => ?_)
  · exact ⟨hx.2 9 (by decide) hf.2.2.2.2.1 x (by unfold scI; omega), hx.2 10 (by decide) hf.2.2.2.2.2.1 x (by unfold scI; omega), hx.2 11 (by decide) hf.2.2.2.2.2.2 x (by unfold scI; omega)⟩
  · exact ⟨hx.2 4 (by decide) hf.1 k (by unfold scI; omega), hx.2 5 (by decide) hf.2.1 k (by unfold scI; omega), hx.2 6 (by decide) hf.2.2.1 k (by unfold scI; omega), hx.2 7 (by decide) hf.2.2.2.1 k (by unfold scI; omega)⟩
def topU (s : SM) (y : Int) : SM := ua (ua (us s 15 y) 12 y (-9)) 13 y (-9)
theorem topU_2 (s : SM) (y : Int) (f : Nat) (b : Int) : (topU s y).2 f b = if (f = 12 ∨ f = 13) ∧ b = y then -9 else s.2 f b := by
  show (if f = 13 ∧ b = y then (-9 : Int) else if f = 12 ∧ b = y then -9 else s.2 f b) = _
  by_cases a1 : f = 13 ∧ b = y
  · rw [if_pos a1, if_pos ⟨Or.inr a1.1, a1.2⟩]
  · rw [if_neg a1]
    by_cases a2 : f = 12 ∧ b = y
    · rw [if_pos a2, if_pos ⟨Or.inl a2.1, a2.2⟩]
    · rw [if_neg a2, if_neg (fun q => q.1.elim (fun w => a2 ⟨w, q.2⟩) (fun w => a1 ⟨w, q.2⟩))]
theorem op_top {y : Int} (h : OP A c s P Q) (hy : 0 ≤ y ∧ y < s.1 8) : OP A (uR (uR c (A y) 5 2) 70 1 (A y)) (topU s y) (fun b => P b ∨ b = y) Q ∧ CX lys [] c (uR (uR c (A y) 5 2) 70 1 (A y)) := by
  obtain ⟨⟨hX, hN, hI⟩, ⟨hL, hP⟩, ⟨ht, h8, ht0, ht8⟩, hKI, hB⟩ := h
  obtain ⟨⟨m1, m2, m3, m4, m5, m6, m7, m8⟩, m9, m10⟩ := hN.2 y hy.1 hy.2
  have hk := hX.dk
  have n70 : A y ≠ 70 := fun q => by rw [q, hk.2.1] at m1; omega
  have hx1 : CX lys [] c (uR (uR c (A y) 5 2) 70 1 (A y)) := by
    refine CX.uR (CX.uR CX.rf (fun _ => ?_)) (fun _ => ?_)
    · rw [ky5 m10, m1]; decide
    · rw [kl_uR, hk.2.1]; decide
  have o : ∀ f, f ≠ 12 → f ≠ 13 → (topU s y).2 f = s.2 f := fun f f1 f2 => funext fun b => by rw [topU_2, if_neg (by omega)]
  have o1 : ∀ f, f ≠ 15 → (topU s y).1 f = s.1 f := fun f f1 => by show (if f = 15 then y else s.1 f) = _; rw [if_neg f1]
  have ne : ∀ b, b ≠ y → A b ≠ A y := fun b hb q => hb (hN.inj hy q)
  refine ⟨⟨⟨hX.x hx1 (by decide) (by decide), ?_, ⟨fun b hb => ?_, fun b j hb => ?_⟩⟩, ⟨fun b hb => ?_, fun b j hb => ?_⟩, ⟨?_, ?_, ?_, ?_⟩, ?_, hB⟩, hx1⟩
  · have := hN.x hx1 (by decide) (by decide) (by decide) (by decide) (by decide)
    unfold ND at this ⊢
    rw [o 9 (by decide) (by decide), o 10 (by decide) (by decide), o 11 (by decide) (by decide), o1 8 (by decide)]
    exact this
  · rw [o1 8 (by decide), topU_2]
    by_cases q : b = y
    · subst q; rw [if_pos ⟨Or.inl rfl, rfl⟩]; exact ⟨hy, Or.inl rfl⟩
    · rw [if_neg (fun w => q w.2)]; exact hI.1 b (hb.resolve_right q)
  · rw [o1 8 (by decide), o 9 (by decide) (by decide), o 14 (by decide) (by decide)]
    exact hI.2 b j hb
  · rw [fR_uR, if_neg (by omega), fR_uR, topU_2, topU_2]
    by_cases q : b = y
    · subst q
      rw [if_pos ⟨rfl, rfl⟩, if_pos ⟨Or.inl rfl, rfl⟩]
      exact ⟨(A9 hN).symm, fun w => absurd rfl w⟩
    · rw [if_neg (fun w => ne b q w.2), if_neg (fun w => q w.2), if_neg (fun w => q w.2)]
      exact hL b (hb.resolve_right q)
  · rw [o 14 (by decide) (by decide)]
    exact hP b j hb
  · rw [fR_uR, if_pos ⟨rfl, rfl⟩]
    rfl
  · rw [o1 8 (by decide)]; exact h8
  · exact hy.1
  · rw [o1 8 (by decide)]; exact hy.2
  · unfold KIc
    rw [o1 2 (by decide), o 4 (by decide) (by decide), o 5 (by decide) (by decide), o 6 (by decide) (by decide), o 7 (by decide) (by decide)]
    exact hKI
def uyY : List (Nat × Nat) := (5, 4) :: (5, 12) :: lys
/-- what a thing that was kept looks like as a sheet -/
def unS (s : SM) (u : Snap) : SM := ((undU s u).1, fun f => if f = 12 ∨ f = 13 ∨ f = 14 then u.2.2 f else (undU s u).2 f)
/-- bringing back: so far -/
def BB (s st : SM) (u : Snap) (p : List Int) : Prop := eqx [15] [10, 12, 13, 14] s st ∧ (∀ y, st.2 10 y = if y ∈ p then u.2.2 10 y else s.2 10 y) ∧ (∀ x, x ∈ p → st.2 12 x = u.2.2 12 x ∧ (x ≠ hd u.1 → st.2 13 x = u.2.2 13 x ∧ st.2 14 (3 * u.2.2 12 x + u.2.2 13 x) = x)) ∧ (hd u.1 ∈ p → st.1 15 = hd u.1)
/-- fillers: gone at these, else as they were or gone -/
def FL2 (A : Int → Nat) (c f : SC) (p : List Int) : Prop := (∀ x, x ∈ p → fR f (A x) 12 = 2) ∧ ∀ a, a < nxt c → fR f a 12 = fR c a 12 ∨ fR f a 12 = 2
theorem bring_ok {u : Snap} {i : Nat} {F : SC → Prop} (hi : i < 20) (hO : OP A c s (fun _ => False) (fun _ _ => False)) (hK : KP s u) (hS : SNc A c (75 + 5 * i) u) (hF : ∀ e st, OP A e st (fun x => x ∈ fl u.1) (fun b j => ∃ x, x ∈ fl u.1 ∧ x ≠ hd u.1 ∧ b = u.2.2 12 x ∧ j = u.2.2 13 x) → BB s st u (fl u.1) → FL2 A c e (fl u.1) → CX uyY [1103] c e → RMk 0 0 c e → F (uR e 70 2 (A (u.2.1 16)))) : ck iv L h0 (d + 1) 223 [vr (75 + 5 * i), vr 70] c (qv F) := by
  obtain ⟨⟨p1, p2, p3, p4⟩, p5, p6, p7, p8⟩ := hK
  have hB8 := hO.2.2.2.2
  have key : ∀ (m p : List Int) (f : SC) (st : SM), fl u.1 = p ++ m → OP A f st (fun x => x ∈ p) (fun b j => ∃ x, x ∈ p ∧ x ≠ hd u.1 ∧ b = u.2.2 12 x ∧ j = u.2.2 13 x) → BB s st u p → FL2 A c f p → CX uyY [1103] c f → RMk 0 0 c f → wk iv L h0 (d + 1) 223 2 [lr (75 + 5 * i), lr 70, li p.length] [] f (qv F) := by
    intro m
    induction m with
    | nil =>
      intro p f st hp hOf hBB hfl hx hr
      obtain ⟨o1, o2, ⟨o3, o4, o5, o6⟩, ⟨o7, o8, o9, o10⟩, o11, o12, o13, o14⟩ := hOf.1.1.2.1.1 i hi
      obtain ⟨c1, c2, ⟨c3, c4, c5, c6⟩, ⟨c7, c8, c9, c10⟩, c11, c12, c13, c14⟩ := hO.1.1.2.1.1 i hi
      have h353 := hO.1.1.2.2.1
      have hky : ky (75 + 5 * i) (kl c (75 + 5 * i)) = 9 := by rw [c2]; unfold ky; rw [if_neg (by omega)]
      have e4 : fI f (75 + 5 * i) 4 = (fl u.1).length := by rw [hx.i (by omega) (by rw [hky]; decide)]; exact hS.1.1
      have e5 : fR f (75 + 5 * i) 5 = A (u.2.1 16) := by rw [hx.r (by omega) (by rw [hky]; decide)]; exact hS.1.2
      rw [List.append_nil] at hp
      refine C223_2 ⟨o2, fun _ => ⟨hOf.1.1.dk.2.1, ?_⟩, fun q => ?_⟩
      · rw [e5]
        rw [← hp] at hOf hBB hfl
        exact hF f st hOf hBB hfl hx hr
      · rw [e4, hp] at q; omega
    | cons x m ih =>
      intro p f st hp hOf hBB hfl hx hr
      obtain ⟨o1, o2, ⟨o3, o4, o5, o6⟩, ⟨o7, o8, o9, o10⟩, o11, o12, o13, o14⟩ := hOf.1.1.2.1.1 i hi
      obtain ⟨c1, c2, ⟨c3, c4, c5, c6⟩, ⟨c7, c8, c9, c10⟩, c11, c12, c13, c14⟩ := hO.1.1.2.1.1 i hi
      have h353 := hO.1.1.2.2.1
      have hky : ky (75 + 5 * i) (kl c (75 + 5 * i)) = 9 := by rw [c2]; unfold ky; rw [if_neg (by omega)]
      have e4 : fI f (75 + 5 * i) 4 = (fl u.1).length := by rw [hx.i (by omega) (by rw [hky]; decide)]; exact hS.1.1
      have hxm : x ∈ fl u.1 := by rw [hp]; simp
      have hget : (fl u.1)[p.length]? = some x := by rw [hp]; simp
      have hlen : (fl u.1).length = p.length + (m.length + 1) := by rw [hp]; simp
      have hxB := (AT_mem u.1 p1 x hxm).1
      have e8 : st.1 8 = s.1 8 := hBB.1.1 8 (by decide)
      have e9 : st.2 9 = s.2 9 := hBB.1.2 9 (by decide)
      have hxst : 0 ≤ x ∧ x < st.1 8 := by rw [e8]; exact hxB
      obtain ⟨q1, q2, q3, q4⟩ := hS.2 p.length x hget
      have row : ∀ a, 75 < a → a < 175 → aI f a = aI c a ∧ aR f a = aR c a := fun a a1 a2 => by
        have hq : rk a (kl c a) ∉ [1103] := by unfold rk; rw [if_pos (by omega)]; simp; omega
        exact ⟨hx.ai (by omega) hq, hx.ar (by omega) hq⟩
      have r1 : aR f (76 + 5 * i) (p.length : Int) = A x := by rw [(row _ (by omega) (by omega)).2, ← q1, show 75 + 5 * i + 1 = 76 + 5 * i by omega]
      have r2 : aR f (77 + 5 * i) (p.length : Int) = A (u.2.2 12 x) := by rw [(row _ (by omega) (by omega)).2, ← q2, show 75 + 5 * i + 2 = 77 + 5 * i by omega]
      have r3 : x ≠ hd u.1 → aI f (78 + 5 * i) (p.length : Int) = u.2.2 13 x := fun q => by rw [(row _ (by omega) (by omega)).1, ← q3 q, show 75 + 5 * i + 3 = 78 + 5 * i by omega]
      have r4 : aI f (79 + 5 * i) (p.length : Int) = u.2.2 10 x := by rw [(row _ (by omega) (by omega)).1, ← q4, show 75 + 5 * i + 4 = 79 + 5 * i by omega]
      obtain ⟨⟨n1, n2, n3, n4, n5, n6, n7, n8⟩, n9, n10⟩ := hOf.1.2.1.2 x hxst.1 hxst.2
      have hxp : x ∉ p := fun q => by
        rw [hp] at p3
        exact (List.nodup_append.mp p3).2.2 x q x (by simp) rfl
      -- number and filler
      obtain ⟨hO1, hx1⟩ := op_v (v := u.2.2 10 x) hOf hxst
      have hx2 : CX [(5, 12)] [] (uI f (A x) 4 (u.2.2 10 x)) (uR (uI f (A x) 4 (u.2.2 10 x)) (A x) 12 2) := CX.rf.uR (fun _ => by rw [kl_uI, ky5 n10, n1]; decide)
      have hO2 := op_x hO1 hx2 (by decide) (by decide) (by decide) (by decide) ⟨by decide, by decide, by decide, by decide⟩ ⟨by decide, by decide, by decide, by decide⟩
      have hxg : CX uyY [1103] c (uR (uI f (A x) 4 (u.2.2 10 x)) (A x) 12 2) := hx.tr ((hx1.up (by decide) (fun _ q => by cases q)).tr (hx2.up (by decide) (fun _ q => by cases q)))
      have hflg : FL2 A c (uR (uI f (A x) 4 (u.2.2 10 x)) (A x) 12 2) (p ++ [x]) := ⟨fun y hy => by
        rw [fR_uR]
        by_cases q : A y = A x
        · rw [if_pos ⟨rfl, q⟩]
        · rw [if_neg (fun w => q w.2), fR_uI]
          rcases List.mem_append.mp hy with w | w
          · exact hfl.1 y w
          · exact absurd (by rw [List.mem_singleton.mp w]) q, fun a ha => by
        rw [fR_uR]
        by_cases q : a = A x
        · rw [if_pos ⟨rfl, q⟩]; exact Or.inr rfl
        · rw [if_neg (fun w => q w.2), fR_uI]
          exact hfl.2 a ha⟩
      generalize hg : uR (uI f (A x) 4 (u.2.2 10 x)) (A x) 12 2 = g at hO2 hxg hflg
      have b10 : ∀ y, (ua st 10 x (u.2.2 10 x)).2 10 y = if y ∈ p ++ [x] then u.2.2 10 y else s.2 10 y := fun y => by
        show (if (10 : Nat) = 10 ∧ y = x then u.2.2 10 x else st.2 10 y) = _
        by_cases q : y = x
        · subst q; rw [if_pos ⟨rfl, rfl⟩, if_pos (by simp)]
        · rw [if_neg (fun w => q w.2), hBB.2.1]
          by_cases q2 : y ∈ p
          · rw [if_pos q2, if_pos (List.mem_append_left _ q2)]
          · rw [if_neg q2, if_neg (fun w => (List.mem_append.mp w).elim q2 (fun w => q (List.mem_singleton.mp w)))]
      have oo : ∀ f, f ≠ 10 → (ua st 10 x (u.2.2 10 x)).2 f = st.2 f := fun f hf => by
        funext y
        show (if f = 10 ∧ y = x then u.2.2 10 x else st.2 f y) = st.2 f y
        rw [if_neg (fun w => hf w.1)]
      have hexq : eqx [15] [10, 12, 13, 14] s (ua st 10 x (u.2.2 10 x)) := eqx_ua hBB.1 (by decide)
      have nx : ∀ (f' : SC) (st' : SM), OP A f' st' (fun y => y ∈ p ++ [x]) (fun b j => ∃ y, y ∈ p ++ [x] ∧ y ≠ hd u.1 ∧ b = u.2.2 12 y ∧ j = u.2.2 13 y) → BB s st' u (p ++ [x]) → FL2 A c f' (p ++ [x]) → CX uyY [1103] c f' → RMk 0 0 c f' → wk iv L h0 (d + 1) 223 2 [lr (75 + 5 * i), lr 70, li ((p.length : Int) + 1)] [] f' (qv F) := fun f' st' a1 a2 a5 a3 a4 => by
        have := ih (p ++ [x]) f' st' (by rw [hp]; simp) a1 a2 a5 a3 a4
        rw [List.length_append] at this
        simp only [List.length_cons, List.length_nil] at this
        push_cast at this
        exact this
      have hrg : RMk 0 0 c g := by rw [← hg]; exact hr
      have keep : ∀ {f' : SC} {rs : List Nat}, CX lys rs g f' → FL2 A c f' (p ++ [x]) := fun hx3 => ⟨fun y hy => by
        have hyB : 0 ≤ y ∧ y < s.1 8 := by
          have : y ∈ fl u.1 := by
            rw [hp]
            rcases List.mem_append.mp hy with w | w
            · exact List.mem_append_left _ w
            · rw [List.mem_singleton.mp w]; simp
          exact (AT_mem u.1 p1 y this).1
        obtain ⟨⟨z1, z2, z3, z4, z5, z6, z7, z8⟩, z9, z10⟩ := hO2.1.2.1.2 y hyB.1 (by show y < st.1 8; rw [e8]; exact hyB.2)
        rw [hx3.r (by omega) (by rw [ky5 z10, z1]; decide)]
        exact hflg.1 y hy, fun a ha => by
        rw [hx3.r (Nat.lt_of_lt_of_le ha hxg.n) (by unfold lys; simp)]
        exact hflg.2 a ha⟩
      refine C223_2 ⟨o2, fun q => by rw [e4] at q; omega, fun _ => ?_⟩
      rw [o3, o4, o5, o6, o7, o8, o9, o10, o11, o12, o13, o14, r1, r2, r4, n1, hg]
      refine ⟨rfl, by omega, rfl, by omega, rfl, rfl, by omega, fun hnn => ?_, fun hnn => ?_⟩
      · have hxh : x ≠ hd u.1 := fun q => hnn (by rw [q, p6]; exact A9 hO.1.2.1)
        have m := (AT_mem u.1 p1 x hxm).2.2.2 hxh
        have hu := (AT_mem u.1 p1 _ m.1).1
        have hust : 0 ≤ u.2.2 12 x ∧ u.2.2 12 x < (ua st 10 x (u.2.2 10 x)).1 8 := by show _ ∧ _ < st.1 8; rw [e8]; exact hu
        have hku := (hOf.1.2.1.2 _ hust.1 hust.2).1.1
        rw [r3 hxh]
        refine ⟨rfl, by omega, hku, hang_c hO2 hust hxst ?_ (fun f' hO3 hx3 hr3 => ⟨by omega, nx f' _ (op_mo hO3 (fun y hy => ?_) (fun b j hb => ?_)) ⟨?_, fun y => ?_, fun y hy => ?_, fun hh => ?_⟩ (keep hx3) (hxg.tr (hx3.up (by decide) (by decide))) (hrg.tr hr3)⟩)⟩
        · rw [oo 9 (by decide), e9]; exact m.2.1
        · rcases List.mem_append.mp hy with q | q
          · exact Or.inl q
          · exact Or.inr (List.mem_singleton.mp q)
        · obtain ⟨y, y1, y2, y3, y4⟩ := hb
          rcases List.mem_append.mp y1 with q | q
          · exact Or.inl ⟨y, q, y2, y3, y4⟩
          · rw [List.mem_singleton.mp q] at y3 y4
            exact Or.inr ⟨y3, y4⟩
        · exact hexq.tr (partU_e.up (fun _ q => by cases q) (fun y q => by simp at q ⊢; omega))
        · rw [(partU_e (s := ua st 10 x (u.2.2 10 x)) (b := u.2.2 12 x) (i := u.2.2 13 x) (c := x)).2 10 (by decide)]
          exact b10 y
        · have v12 : ∀ z, (partU (ua st 10 x (u.2.2 10 x)) (u.2.2 12 x) (u.2.2 13 x) x).2 12 z = if z = x then u.2.2 12 x else st.2 12 z := fun z => by
            show (if (12 : Nat) = 13 ∧ z = x then u.2.2 13 x else if (12 : Nat) = 12 ∧ z = x then u.2.2 12 x else if (12 : Nat) = 14 ∧ z = 3 * u.2.2 12 x + u.2.2 13 x then x else if (12 : Nat) = 10 ∧ z = x then u.2.2 10 x else st.2 12 z) = _
            simp
          have v13 : ∀ z, (partU (ua st 10 x (u.2.2 10 x)) (u.2.2 12 x) (u.2.2 13 x) x).2 13 z = if z = x then u.2.2 13 x else st.2 13 z := fun z => by
            show (if (13 : Nat) = 13 ∧ z = x then u.2.2 13 x else if (13 : Nat) = 12 ∧ z = x then u.2.2 12 x else if (13 : Nat) = 14 ∧ z = 3 * u.2.2 12 x + u.2.2 13 x then x else if (13 : Nat) = 10 ∧ z = x then u.2.2 10 x else st.2 13 z) = _
            simp
          have v14 : ∀ z, (partU (ua st 10 x (u.2.2 10 x)) (u.2.2 12 x) (u.2.2 13 x) x).2 14 z = if z = 3 * u.2.2 12 x + u.2.2 13 x then x else st.2 14 z := fun z => by
            show (if (14 : Nat) = 13 ∧ z = x then u.2.2 13 x else if (14 : Nat) = 12 ∧ z = x then u.2.2 12 x else if (14 : Nat) = 14 ∧ z = 3 * u.2.2 12 x + u.2.2 13 x then x else if (14 : Nat) = 10 ∧ z = x then u.2.2 10 x else st.2 14 z) = _
            simp
          rw [v12, v13, v14]
          rcases List.mem_append.mp hy with q | q
          · have hyx : y ≠ x := fun w => hxp (by rw [← w]; exact q)
            obtain ⟨g1, g2⟩ := hBB.2.2.1 y q
            rw [if_neg hyx, if_neg hyx]
            refine ⟨g1, fun w => ⟨(g2 w).1, ?_⟩⟩
            rw [if_neg (fun z => ?_)]
            · exact (g2 w).2
            · have hym : y ∈ fl u.1 := by rw [hp]; exact List.mem_append_left _ q
              have my := (AT_mem u.1 p1 y hym).2.2.2 w
              rw [← m.2.2, ← z, my.2.2] at hyx
              exact hyx rfl
          · have hyx := List.mem_singleton.mp q
            subst hyx
            rw [if_pos rfl, if_pos rfl, if_pos rfl]
            exact ⟨rfl, fun _ => ⟨rfl, rfl⟩⟩
        · rcases List.mem_append.mp hh with q | q
          · exact hBB.2.2.2 q
          · exact absurd (List.mem_singleton.mp q).symm hxh
      · have hxh : x = hd u.1 := by
          by_cases q : x = hd u.1
          · exact q
          · have m := (AT_mem u.1 p1 x hxm).2.2.2 q
            have hu := (AT_mem u.1 p1 _ m.1).1
            exact absurd hnn (hO.1.2.1.ne hu).1
        obtain ⟨hO3, hx3⟩ := op_top hO2 hxst
        refine ⟨hOf.1.1.dk.2.1, by omega, nx _ _ (op_mo hO3 (fun y hy => ?_) (fun b j hb => ?_)) ⟨?_, fun y => ?_, fun y hy => ?_, fun hh => ?_⟩ (keep hx3) (hxg.tr (hx3.up (by decide) (fun _ q => by cases q))) hrg⟩
        · rcases List.mem_append.mp hy with q | q
          · exact Or.inl q
          · exact Or.inr (List.mem_singleton.mp q)
        · obtain ⟨y, y1, y2, y3, y4⟩ := hb
          rcases List.mem_append.mp y1 with q | q
          · exact ⟨y, q, y2, y3, y4⟩
          · exact absurd ((List.mem_singleton.mp q).trans hxh) y2
        · exact eqx_ua (eqx_ua (eqx_us hexq (by decide)) (by decide)) (by decide)
        · rw [topU_2, if_neg (by omega)]
          exact b10 y
        · rw [topU_2, topU_2, topU_2]
          rcases List.mem_append.mp hy with q | q
          · have hyx : y ≠ x := fun w => hxp (by rw [← w]; exact q)
            rw [if_neg (fun w => hyx w.2), if_neg (fun w => hyx w.2), if_neg (by omega)]
            exact hBB.2.2.1 y q
          · have hyx := List.mem_singleton.mp q
            subst hyx
            rw [if_pos ⟨Or.inl rfl, rfl⟩]
            refine ⟨?_, fun w => absurd hxh w⟩
            rw [hxh]; exact p6.symm
        · show x = hd u.1
          exact hxh
  refine C223 ?_
  have h0' : OP A c s (fun x => x ∈ ([] : List Int)) (fun b j => ∃ x, x ∈ ([] : List Int) ∧ x ≠ hd u.1 ∧ b = u.2.2 12 x ∧ j = u.2.2 13 x) := op_mo hO (fun x q => by cases q) (fun b j q => by obtain ⟨x, q, -⟩ := q; cases q)
  exact key (fl u.1) [] c s rfl h0' ⟨eqx.rf, (fun y => by rw [if_neg (by simp)]), (fun x q => by cases q), (fun q => by cases q)⟩ ⟨fun x q => (by cases q), fun a _ => Or.inl rfl⟩ CX.rf RMk.rf
end
