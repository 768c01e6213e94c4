/-! Making DEF, USE, PICK, PAIR, halves, by the desk. -/
section
variable {iv : List (Int × Int)} {L : Nat} {h0 : MH} {A : Int → Nat} {T : Int → Prop} {ρ : Int → Option Int} {c e f : SC} {s w : SM} {k d M : Nat}
theorem VJ.j3 (h : VJ A T ρ c s) : kl c 175 = 3 ∧ fR c 175 0 = 65 ∧ kl c 65 = 4 ∧ (fR c 65 0 = 66 ∧ fR c 65 1 = 67 ∧ fR c 65 2 = 68) ∧ (kl c 66 = 100 ∧ kl c 67 = 100 ∧ kl c 68 = 100) ∧ (le c 66 = 1440 ∧ le c 67 = 1440 ∧ le c 68 = 1440) ∧ aI c 66 = s.2 4 ∧ aI c 67 = s.2 5 ∧ aI c 68 = s.2 6 := by
  obtain ⟨h1, -, -, h4, e4, e5, e6, -⟩ := h
  simp only [h1.1]
  exact ⟨trivial, trivial, trivial, ⟨trivial, trivial, trivial⟩, ⟨trivial, trivial, trivial⟩, ⟨trivial, trivial, trivial⟩, e4, e5, e6⟩
theorem D90 {a1 a2 : Int} {F : Int → SM → Prop} (hT : T a1) (hρ : ρ a1 = none) (e : s.2 9 a1 = 8) (H : (a2 = -1 → cj iv L h0 A T ρ k d 88 [vr 307, vi (s.2 14 (3 * a1)), vi (-1)] s (qi fun r s1 => cj iv L h0 A T ρ k d 65 [vr 307, vi 3, vi (s.2 11 a1), vi r] s1 (qi F))) ∧ (a2 ≠ -1 → (0 ≤ a2 ∧ a2 < 1440) ∧ (s.2 4 a2 ≠ 3 → (a2 ≠ 0 → cj iv L h0 A T ρ k d 88 [vr 307, vi (s.2 14 (3 * a1)), vi (-1)] s (qi fun r s1 => cj iv L h0 A T ρ k d 65 [vr 307, vi 3, vi (s.2 11 a1), vi r] s1 (qi F))) ∧ (a2 = 0 → cj iv L h0 A T ρ k d 88 [vr 307, vi (s.2 14 (3 * a1)), vi 0] s (qi fun r s1 => cj iv L h0 A T ρ k d 65 [vr 307, vi 3, vi (s.2 11 a1), vi r] s1 (qi F)))) ∧ (s.2 4 a2 = 3 → a2 ≠ 0 ∧ cj iv L h0 A T ρ k d 70 [vr 307, vi (s.2 11 a1), vi (s.2 5 a2)] s (qi fun r s1 => s1 = s ∧ (r = 0 → cj iv L h0 A T (ro ρ a1 4) k d 88 [vr 307, vi (s.2 14 (3 * a1)), vi (s.2 6 a2)] s (qi fun r2 s2 => cj iv L h0 A T ρ k d 65 [vr 307, vi 3, vi (s.2 11 a1), vi r2] (ua s2 21 a1 4) (qi F))) ∧ (r ≠ 0 → cj iv L h0 A T ρ k d 88 [vr 307, vi (s.2 14 (3 * a1)), vi (s.2 6 a2)] s (qi fun r2 s2 => cj iv L h0 A T ρ k d 65 [vr 307, vi 3, vi (s.2 11 a1), vi r2] s2 (qi F))))))) : cj iv L h0 A T ρ k (d + 1) 90 [vr 307, vi a1, vi a2] s (qi F) := by
  intro c a3 hv h3 hk
  refine toQ ?_
  show ck iv L h0 (d + 1) 168 [vr 175, vr (A a1), vi a2, vi a3] c _
  obtain ⟨n1, n2, n3, n4, n5, n6, n7, n8⟩ := hv.st hT
  obtain ⟨k1, k2, k3, ⟨k4, k5, k6⟩, ⟨k7, k8, k9⟩, ⟨k10, k11, k12⟩, k13, k14, k15⟩ := hv.j3
  have hp : pO (s.2 9 a1) = 1 := by rw [e]; rfl
  obtain ⟨p0, p0T⟩ := hv.p0 hT (by omega)
  have plain : ∀ z : Int, cj iv L h0 A T ρ k d 88 [vr 307, vi (s.2 14 (3 * a1)), vi z] s (qi fun r s1 => cj iv L h0 A T ρ k d 65 [vr 307, vi 3, vi (s.2 11 a1), vi r] s1 (qi F)) → ck iv L h0 d 165 [vr 175, vr (A (s.2 14 (3 * a1))), vi z, vi a3] c (qi fun r6 s5 => (kl s5 65 = 4) ∧ ck iv L h0 d 181 [vr 65, vi 3, vi (s.2 11 a1), vi r6] s5 (qi fun r9 s8 => QF A T ρ c F r9 s8)) := fun z h => by
    refine cjg (a3 := a3) h hv h3 hk ⟨CX.rf, RMk.rf⟩ ?_
    rintro r e1 s1 hv1 hx1 g
    exact ⟨hv1.j3.2.2.1, cjq (a3 := 0) g hv1 (Int.le_refl _) (by omega) hx1⟩
  refine C168 ?_
  simp only [k1, k2, k3, k4, k5, k6, k7, k8, k9, k10, k11, k12, k13, k14, k15, n1, n4, n5, n6, n7, hp, p0, true_and]
  refine ⟨fun h0' => ⟨fun q => ⟨by omega, plain _ (H.1 q)⟩, fun q => ?_⟩, fun q => ⟨by omega, ?_⟩⟩
  · obtain ⟨g1, g2, g3⟩ := H.2 q
    refine ⟨g1, fun q3 => ⟨by omega, plain _ ((g2 q3).1 h0')⟩, fun q3 => ⟨g1, g1, ?_⟩⟩
    refine cjg (a3 := 0) (g3 q3).2 hv (Int.le_refl _) (by omega) ⟨CX.rf, RMk.rf⟩ ?_
    rintro r e1 s1 hv1 hx1 ⟨rfl, g4, g5⟩
    obtain ⟨m1, m2, m3, m4, m5, m6, m7, m8⟩ := hv1.st hT
    obtain ⟨l1, l2, l3, -⟩ := hv1.j3
    obtain ⟨p0', p0T'⟩ := hv1.p0 hT (by omega)
    simp only [l1, l2, m1, m4, m5, m6, m7, hp, p0', true_and]
    refine ⟨fun q0 => ⟨by omega, ?_⟩, fun q0 => ⟨by omega, ?_⟩⟩
    · refine cjg (a3 := a3) (g5 q0) hv1 h3 hk hx1 ?_
      rintro r2 e2 s2 hv2 hx2 g6
      exact ⟨hv2.j3.2.2.1, cjq (a3 := 0) g6 hv2 (Int.le_refl _) (by omega) hx2⟩
    · refine inQ (g4 q0 _ a3 (vj_ro hv1 hT) h3 hk) (Nat.le_refl _) ?_
      rintro r2 e2 s2 hv2 hx2 g6
      have hx3 : CXR c e2 := (hx1.t ⟨CX.rf.uI (fun _ => ky25 _ _ 10 m1 (by decide)), RMk.rf⟩).t hx2
      have hv3 := vj_or hv2 hρ
      exact ⟨hv3.j3.2.2.1, cjq (a3 := 0) g6 hv3 (Int.le_refl _) (by omega) hx3⟩
  · obtain ⟨g1, g2, g3⟩ := H.2 (by omega)
    have h4 : s.2 4 a2 ≠ 3 := fun w => (g3 w).1 q
    rw [← q]
    exact plain _ (by rw [q]; exact (g2 h4).2 q)
theorem D91 {a1 : Int} {F : Int → SM → Prop} (hT : T a1) (e : s.2 9 a1 = 9) (H : cj iv L h0 A T ρ k d 88 [vr 307, vi (s.2 14 (3 * a1)), vi (-1)] s (qi fun r s1 => s1.2 9 a1 = s.2 9 a1 ∧ ρ (s1.2 14 (3 * a1)) = none ∧ (0 ≤ r ∧ r < 1440) ∧ (s1.2 4 r ≠ 3 → (s1.2 21 (s1.2 14 (3 * a1)) ≠ 0 → cj iv L h0 A T ρ k d 88 [vr 307, vi (s1.2 14 (3 * a1 + 1)), vi 0] s1 (qi fun _ s2 => F 0 s2)) ∧ (s1.2 21 (s1.2 14 (3 * a1)) = 0 → (s1.2 4 r = 0 → cj iv L h0 A T ρ k d 88 [vr 307, vi (s1.2 14 (3 * a1 + 1)), vi 0] s1 (qi fun _ s2 => F 0 s2)) ∧ (s1.2 4 r ≠ 0 → cj iv L h0 A T ρ k d 88 [vr 307, vi (s1.2 14 (3 * a1 + 1)), vi 0] (ua s1 21 (s1.2 14 (3 * a1)) 2) (qi fun _ s2 => F 0 s2)))) ∧ (s1.2 4 r = 3 → cj iv L h0 A T ρ k d 88 [vr 307, vi (s1.2 14 (3 * a1 + 1)), vi (s1.2 5 r)] s1 (qi fun _ s2 => F (s2.2 6 r) s2)))) : cj iv L h0 A T ρ k (d + 1) 91 [vr 307, vi a1] s (qi F) := by
  intro c a3 hv h3 hk
  refine toQ ?_
  show ck iv L h0 (d + 1) 169 [vr 175, vr (A a1), vi a3] c _
  obtain ⟨n1, n2, n3, n4, n5, n6, n7, n8⟩ := hv.st hT
  have hp : pO (s.2 9 a1) = 2 := by rw [e]; rfl
  obtain ⟨p0, p0T⟩ := hv.p0 hT (by omega)
  refine C169 ⟨n1, ?_⟩
  rw [n5, n6, n7, hp, p0]
  refine ⟨rfl, by omega, hv.j3.1, cjg (a3 := a3) H hv h3 hk ⟨CX.rf, RMk.rf⟩ ?_⟩
  rintro r e1 s1 hv1 hx1 ⟨g0, gρ, gr, g1, g2⟩
  obtain ⟨m1, m2, m3, m4, m5, m6, m7, m8⟩ := hv1.st hT
  obtain ⟨k1, k2, k3, ⟨k4, k5, k6⟩, ⟨k7, k8, k9⟩, ⟨k10, k11, k12⟩, k13, k14, k15⟩ := hv1.j3
  obtain ⟨p0', p0T'⟩ := hv1.p0 hT (by rw [g0, hp]; decide)
  obtain ⟨p1', p1T'⟩ := m8 1 (by decide) (by rw [g0, hp]; decide)
  obtain ⟨d1, d2, d3⟩ := hv1.dy p0T'
  rw [gρ] at d3
  have d3 : fI e1 (A (s1.2 14 (3 * a1))) 10 = s1.2 21 (s1.2 14 (3 * a1)) := d3
  have hk5 := hv1.k5 p0T'
  simp only [k1, k2, k3, k4, k5, k6, k7, k8, k9, k10, k11, k12, k13, k14, k15, m1, m5, m6, m7, g0, hp, p0', p1', d3, hk5, true_and]
  refine ⟨gr, fun q3 => ⟨by omega, fun qr => ⟨by omega, cjg (a3 := a3) ((g1 q3).1 qr) hv1 h3 hk hx1 (fun z f w a b q => ⟨w, a, b, q⟩)⟩, fun qr => ?_⟩, fun q3 => ⟨by omega, by omega, cjg (a3 := a3) (g2 q3) hv1 h3 hk hx1 ?_⟩⟩
  · have fin : ∀ (z : Int) (s' : SM), VJ A T ρ (uI e1 (A (s1.2 14 (3 * a1))) 10 z) s' → cj iv L h0 A T ρ k d 88 [vr 307, vi (s1.2 14 (3 * a1 + 1)), vi 0] s' (qi fun _ s2 => F 0 s2) → (kl e1 (A (s1.2 14 (3 * a1))) = 5) ∧ (kl e1 (A a1) = 5) ∧ (kl e1 (fR e1 (A a1) 3) = 103) ∧ ((0 : Int) ≤ 1 ∧ 1 < le e1 (fR e1 (A a1) 3)) ∧ ck iv L h0 d 165 [vr 175, vr (aR e1 (fR e1 (A a1) 3) 1), vi 0, vi a3] (uI e1 (A (s1.2 14 (3 * a1))) 10 z) (qi fun r26 s25 => QF A T ρ c F 0 s25) := fun z s' hv' h => by
      rw [m5, m6, m7, g0, hp, p1']
      exact ⟨hk5, m1, rfl, by omega, cjg (a3 := a3) h hv' h3 hk (hx1.t ⟨CX.rf.uI (fun _ => ky25 _ _ 10 hk5 (by decide)), RMk.rf⟩) (fun z f w a b q => ⟨w, a, b, q⟩)⟩
    refine C173 ?_
    simp only [k1, k2, k3, k4, k7, k10, k13, true_and]
    refine ⟨gr, fun q => absurd rfl q, fun _ => ⟨fun q => absurd q q3, fun _ => ⟨fun q0 => ?_, fun q0 => ?_⟩⟩⟩
    · exact fin 2 _ (vj_10 hv1 p0T' gρ) (((g1 q3).2 qr).2 q0)
    · refine fin 0 s1 ?_ (((g1 q3).2 qr).1 q0)
      have := vj_10 (z := 0) hv1 p0T' gρ
      rw [ua_same qr] at this
      exact this
  · rintro r2 e2 s2 hv2 hx2 g3
    obtain ⟨k1, k2, k3, ⟨k4, k5, k6⟩, ⟨k7, k8, k9⟩, ⟨k10, k11, k12⟩, k13, k14, k15⟩ := hv2.j3
    rw [k1, k2, k3, k6, k9, k12, k15]
    exact ⟨rfl, rfl, rfl, gr, s2, hv2, hx2, g3⟩
theorem D92 {a1 a2 : Int} {F : Int → SM → Prop} (hT : T a1) (hρ : ρ a1 = none) (e : s.2 9 a1 = 11) (H : cj iv L h0 A T ρ k d 88 [vr 307, vi (s.2 14 (3 * a1)), vi 2] s (qi fun _ s1 => s1.2 9 a1 = s.2 9 a1 ∧ cj iv L h0 A T ρ k d 88 [vr 307, vi (s1.2 14 (3 * a1 + 1)), vi a2] s1 (qi fun r4 s3 => s3.2 9 a1 = s.2 9 a1 ∧ cj iv L h0 A T ρ k d 88 [vr 307, vi (s3.2 14 (3 * a1 + 2)), vi a2] s3 (qi fun r6 s5 => (a2 = (-1) → cj iv L h0 A T ρ k d 70 [vr 307, vi r4, vi r6] s5 (qi fun r8 s7 => (r8 = 0 → F 0 (ua s7 21 a1 5)) ∧ (r8 ≠ 0 → cj iv L h0 A T ρ k d 71 [vr 307, vi r4, vi r6] s7 (qi F)))) ∧ (a2 ≠ (-1) → F a2 s5))))) : cj iv L h0 A T ρ k (d + 1) 92 [vr 307, vi a1, vi a2] s (qi F) := by
  intro c a3 hv h3 hk
  refine toQ ?_
  show ck iv L h0 (d + 1) 170 [vr 175, vr (A a1), vi a2, vi a3] c _
  obtain ⟨n1, n2, n3, n4, n5, n6, n7, n8⟩ := hv.st hT
  have hp : pO (s.2 9 a1) = 3 := by rw [e]; rfl
  obtain ⟨p0, p0T⟩ := hv.p0 hT (by omega)
  refine C170 ⟨n1, ?_⟩
  rw [n5, n6, n7, hp, p0]
  refine ⟨rfl, by omega, hv.j3.1, cjg (a3 := a3) H hv h3 hk ⟨CX.rf, RMk.rf⟩ ?_⟩
  rintro r e1 s1 hv1 hx1 ⟨g0, g1⟩
  obtain ⟨m1, m2, m3, m4, m5, m6, m7, m8⟩ := hv1.st hT
  rw [m5, m6, m7, g0, hp, (m8 1 (by decide) (by rw [g0, hp]; decide)).1]
  refine ⟨m1, rfl, by omega, hv1.j3.1, cjg (a3 := a3) g1 hv1 h3 hk hx1 ?_⟩
  rintro r4 e3 s3 hv3 hx3 ⟨g3, g4⟩
  obtain ⟨m1, m2, m3, m4, m5, m6, m7, m8⟩ := hv3.st hT
  rw [m5, m6, m7, g3, hp, (m8 2 (by decide) (by rw [g3, hp]; decide)).1]
  refine ⟨m1, rfl, by omega, hv3.j3.1, cjg (a3 := a3) g4 hv3 h3 hk hx3 ?_⟩
  rintro r6 e5 s5 hv5 hx5 ⟨g5, g6⟩
  obtain ⟨k1, k2, k3, -⟩ := hv5.j3
  rw [k1, k2, k3]
  refine ⟨fun q => ⟨rfl, rfl, cjg (a3 := 0) (g5 q) hv5 (Int.le_refl _) (by omega) hx5 ?_⟩, fun q => ⟨s5, hv5, hx5, g6 q⟩⟩
  rintro r8 e7 s7 hv7 hx7 ⟨g7, g8⟩
  obtain ⟨k1, k2, k3, -⟩ := hv7.j3
  rw [k1, k2, k3]
  have hk5 := hv7.k5 hT
  exact ⟨fun q => ⟨hk5, _, vj_10 hv7 hT hρ, hx7.t ⟨CX.rf.uI (fun _ => ky25 _ _ 10 hk5 (by decide)), RMk.rf⟩, g7 q⟩, fun q => ⟨rfl, rfl, cjq (a3 := 0) (g8 q) hv7 (Int.le_refl _) (by omega) hx7⟩⟩
abbrev two (iv : List (Int × Int)) (L : Nat) (h0 : MH) (A : Int → Nat) (T : Int → Prop) (ρ : Int → Option Int) (k d : Nat) (a1 x y : Int) (s : SM) (F : Int → SM → Prop) : Prop := cj iv L h0 A T ρ k d 88 [vr 307, vi (s.2 14 (3 * a1)), vi x] s (qi fun r s1 => s1.2 9 a1 = s.2 9 a1 ∧ cj iv L h0 A T ρ k d 88 [vr 307, vi (s1.2 14 (3 * a1 + 1)), vi y] s1 (qi fun r' s2 => cj iv L h0 A T ρ k d 65 [vr 307, vi 4, vi r, vi r'] s2 (qi F)))
theorem D93 {a1 a2 : Int} {F : Int → SM → Prop} (hT : T a1) (e : s.2 9 a1 = 12) (H : (a2 = -1 → two iv L h0 A T ρ k d a1 (-1) (-1) s F) ∧ (a2 = 0 → two iv L h0 A T ρ k d a1 0 0 s F) ∧ (a2 ≠ -1 → a2 ≠ 0 → (0 ≤ a2 ∧ a2 < 1440) ∧ (s.2 4 a2 ≠ 4 → two iv L h0 A T ρ k d a1 (-1) (-1) s F) ∧ (s.2 4 a2 = 4 → two iv L h0 A T ρ k d a1 (s.2 5 a2) (s.2 6 a2) s F))) : cj iv L h0 A T ρ k (d + 1) 93 [vr 307, vi a1, vi a2] s (qi F) := by
  intro c a3 hv h3 hk
  refine toQ ?_
  show ck iv L h0 (d + 1) 171 [vr 175, vr (A a1), vi a2, vi a3] c _
  obtain ⟨n1, n2, n3, n4, n5, n6, n7, n8⟩ := hv.st hT
  obtain ⟨k1, k2, k3, ⟨k4, k5, k6⟩, ⟨k7, k8, k9⟩, ⟨k10, k11, k12⟩, k13, k14, k15⟩ := hv.j3
  have hp : pO (s.2 9 a1) = 2 := by rw [e]; rfl
  obtain ⟨p0, p0T⟩ := hv.p0 hT (by omega)
  have go : ∀ x y : Int, two iv L h0 A T ρ k d a1 x y s F → ck iv L h0 d 165 [vr 175, vr (A (s.2 14 (3 * a1))), vi x, vi a3] c (qi fun r6 s5 => (kl s5 (A a1) = 5) ∧ (kl s5 (fR s5 (A a1) 3) = 103) ∧ ((0 : Int) ≤ 1 ∧ 1 < le s5 (fR s5 (A a1) 3)) ∧ (kl s5 175 = 3) ∧ ck iv L h0 d 165 [vr 175, vr (aR s5 (fR s5 (A a1) 3) 1), vi y, vi a3] s5 (qi fun r12 s11 => (kl s11 175 = 3) ∧ (kl s11 (fR s11 175 0) = 4) ∧ ck iv L h0 d 181 [vr (fR s11 175 0), vi 4, vi r6, vi r12] s11 (qi fun r16 s15 => QF A T ρ c F r16 s15))) := fun x y h => by
    refine cjg (a3 := a3) h hv h3 hk ⟨CX.rf, RMk.rf⟩ ?_
    rintro r e1 s1 hv1 hx1 ⟨g0, g1⟩
    obtain ⟨m1, m2, m3, m4, m5, m6, m7, m8⟩ := hv1.st hT
    rw [m5, m6, m7, g0, hp, (m8 1 (by decide) (by rw [g0, hp]; decide)).1]
    refine ⟨m1, rfl, by omega, hv1.j3.1, cjg (a3 := a3) g1 hv1 h3 hk hx1 ?_⟩
    rintro r2 e2 s2 hv2 hx2 g2
    obtain ⟨l1, l2, l3, -⟩ := hv2.j3
    rw [l1, l2, l3]
    exact ⟨rfl, rfl, cjq (a3 := 0) g2 hv2 (Int.le_refl _) (by omega) hx2⟩
  refine C171 ?_
  rw [k1, k2, k3, k4, k5, k6, k7, k8, k9, k10, k11, k12, k13, k14, k15, n1, n5, n6, n7, hp, p0]
  refine ⟨fun q0 => ⟨fun q => ⟨rfl, rfl, by omega, rfl, go _ _ (H.1 q)⟩, fun q => ?_⟩, fun q0 => ⟨rfl, rfl, by omega, rfl, go _ _ (H.2.1 q0)⟩⟩
  obtain ⟨g1, g2, g3⟩ := H.2.2 q q0
  exact ⟨rfl, rfl, rfl, g1, fun q4 => ⟨rfl, rfl, by omega, go _ _ (g2 q4)⟩, fun q4 => ⟨rfl, g1, rfl, g1, rfl, rfl, by omega, go _ _ (g3 q4)⟩⟩
theorem D94 {a1 : Int} {F : Int → SM → Prop} (hT : T a1) (e : s.2 9 a1 = 13 ∨ s.2 9 a1 = 14) (H : cj iv L h0 A T ρ k d 88 [vr 307, vi (s.2 14 (3 * a1)), vi (-1)] s (qi fun r s1 => s1.2 9 a1 = s.2 9 a1 ∧ ρ (s1.2 14 (3 * a1)) = none ∧ (0 ≤ r ∧ r < 1440) ∧ (s1.2 4 r ≠ 4 → (s1.2 21 (s1.2 14 (3 * a1)) ≠ 0 → F 0 s1) ∧ (s1.2 21 (s1.2 14 (3 * a1)) = 0 → (s1.2 4 r = 0 → F 0 s1) ∧ (s1.2 4 r ≠ 0 → F 0 (ua s1 21 (s1.2 14 (3 * a1)) 3)))) ∧ (s1.2 4 r = 4 → (s1.2 9 a1 ≠ 13 → F (s1.2 6 r) s1) ∧ (s1.2 9 a1 = 13 → F (s1.2 5 r) s1)))) : cj iv L h0 A T ρ k (d + 1) 94 [vr 307, vi a1] s (qi F) := by
  intro c a3 hv h3 hk
  refine toQ ?_
  show ck iv L h0 (d + 1) 172 [vr 175, vr (A a1), vi a3] c _
  obtain ⟨n1, n2, n3, n4, n5, n6, n7, n8⟩ := hv.st hT
  have hp : pO (s.2 9 a1) = 1 := by rcases e with e | e <;> rw [e] <;> rfl
  obtain ⟨p0, p0T⟩ := hv.p0 hT (by omega)
  refine C172 ⟨n1, ?_⟩
  rw [n5, n6, n7, hp, p0]
  refine ⟨rfl, by omega, hv.j3.1, cjg (a3 := a3) H hv h3 hk ⟨CX.rf, RMk.rf⟩ ?_⟩
  rintro r e1 s1 hv1 hx1 ⟨g0, gρ, gr, g1, g2⟩
  obtain ⟨m1, m2, m3, m4, m5, m6, m7, m8⟩ := hv1.st hT
  obtain ⟨k1, k2, k3, ⟨k4, k5, k6⟩, ⟨k7, k8, k9⟩, ⟨k10, k11, k12⟩, k13, k14, k15⟩ := hv1.j3
  obtain ⟨p0', p0T'⟩ := hv1.p0 hT (by rw [g0, hp]; decide)
  obtain ⟨d1, d2, d3⟩ := hv1.dy p0T'
  rw [gρ] at d3
  have d3 : fI e1 (A (s1.2 14 (3 * a1))) 10 = s1.2 21 (s1.2 14 (3 * a1)) := d3
  have hk5 := hv1.k5 p0T'
  rw [k1, k2, k3, k4, k5, k6, k7, k8, k9, k10, k11, k12, k13, k14, k15, m1, m2, m5, m6, m7, g0, hp, p0', d3, hk5]
  rw [g0] at g2
  refine ⟨rfl, rfl, rfl, gr, fun q4 => ⟨rfl, rfl, by omega, rfl, fun qr => ⟨s1, hv1, hx1, (g1 q4).1 qr⟩, fun qr => ?_⟩, fun q4 => ⟨rfl, fun q => ⟨rfl, gr, s1, hv1, hx1, (g2 q4).1 q⟩, fun q => ⟨rfl, gr, s1, hv1, hx1, (g2 q4).2 q⟩⟩⟩
  have fin : ∀ (z : Int) (s' : SM), VJ A T ρ (uI e1 (A (s1.2 14 (3 * a1))) 10 z) s' → F 0 s' → (kl e1 (A (s1.2 14 (3 * a1))) = 5) ∧ QF A T ρ c F 0 (uI e1 (A (s1.2 14 (3 * a1))) 10 z) := fun z s' hv' h => ⟨hk5, s', hv', hx1.t ⟨CX.rf.uI (fun _ => ky25 _ _ 10 hk5 (by decide)), RMk.rf⟩, h⟩
  have both : (s1.2 4 r ≠ 0 → (kl e1 (A (s1.2 14 (3 * a1))) = 5) ∧ QF A T ρ c F 0 (uI e1 (A (s1.2 14 (3 * a1))) 10 3)) ∧ (s1.2 4 r = 0 → (kl e1 (A (s1.2 14 (3 * a1))) = 5) ∧ QF A T ρ c F 0 (uI e1 (A (s1.2 14 (3 * a1))) 10 0)) := ⟨fun q0 => fin 3 _ (vj_10 hv1 p0T' gρ) (((g1 q4).2 qr).2 q0), fun q0 => fin 0 s1 (by
    have := vj_10 (z := 0) hv1 p0T' gρ
    rw [ua_same qr] at this
    exact this) (((g1 q4).2 qr).1 q0)⟩
  refine C173 ?_
  simp only [k1, k2, k3, k4, k7, k10, k13, true_and]
  refine ⟨gr, fun _ => ⟨fun _ => ⟨fun q => absurd q q4, fun _ => both⟩, fun q13 => ⟨fun q => absurd (e.resolve_left q13) q, fun _ => ⟨fun q => absurd q q4, fun _ => both⟩⟩⟩, fun q => by omega⟩
end
