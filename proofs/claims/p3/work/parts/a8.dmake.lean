/-! Making, a sort at a time, by the desk. Printed by wip/gen2/gen_dmake.py. -/
section
variable {iv : List (Int × Int)} {L : Nat} {h0 : MH} {A : Int → Nat} {T : Int → Prop} {ρ : Int → Option Int} {c e f : SC} {s w : SM} {k d M : Nat}
abbrev CXR (c e : SC) : Prop := CX jys jrs c e ∧ RMk 0 0 c e
theorem CXR.t (h1 : CXR c e) (h2 : CXR e f) : CXR c f := ⟨h1.1.tr h2.1, h1.2.tr h2.2⟩
theorem cjg {as : List VV} {F : Int → SM → Prop} {G : Int → SC → Prop} {a3 : Int} {k' d' : Nat} (h : cj iv L h0 A T ρ k' d' M as s (qi F)) (hv : VJ A T ρ e s) (h3 : 0 ≤ a3) (hk : a3 + k' ≤ 65) (hx : CXR c e) (hG : ∀ z f w, VJ A T ρ f w → CXR c f → F z w → G z f) : ck iv L h0 d' (tgM A M as a3).1 (tgM A M as a3).2 e (qi G) := inQ (h e a3 hv h3 hk) (Nat.le_refl _) (fun z f w a b q => hG z f w a (hx.t b) q)
theorem cjq {as : List VV} {F : Int → SM → Prop} {a3 : Int} {k' d' : Nat} (h : cj iv L h0 A T ρ k' d' M as s (qi F)) (hv : VJ A T ρ e s) (h3 : 0 ≤ a3) (hk : a3 + k' ≤ 65) (hx : CXR c e) : ck iv L h0 d' (tgM A M as a3).1 (tgM A M as a3).2 e (qi (QF A T ρ c F)) := cjg h hv h3 hk hx (fun z f w a b q => ⟨w, a, b, q⟩)
theorem ua_same {f : Nat} {i z : Int} (h : s.2 f i = z) : ua s f i z = s := by
  refine Prod.ext rfl (funext fun k => funext fun j => ?_)
  show (if k = f ∧ j = i then z else s.2 k j) = s.2 k j
  split
  · rename_i q
    rw [q.1, q.2, h]
  · rfl
theorem D87 {b : Int} {F : Int → SM → Prop} (hT : T b) (hρ : ρ b = none) (H : (s.2 21 b ≠ 0 → F 0 s) ∧ (s.2 21 b = 0 → F (s.2 19 b) s)) : cj iv L h0 A T ρ k d 87 [vr 307, vi b] s (qi F) := by
  intro c a3 hv h3 hk
  refine toQ ?_
  show ck iv L h0 d 189 [vr (A b)] c _
  obtain ⟨q1, q2, q3⟩ := hv.dy hT
  rw [hρ] at q3
  refine C189 ⟨hv.k5 hT, ?_⟩
  rw [q2, q3]
  exact ⟨fun h => ⟨s, hv, ⟨CX.rf, RMk.rf⟩, H.1 h⟩, fun h => ⟨s, hv, ⟨CX.rf, RMk.rf⟩, H.2 h⟩⟩
theorem D88 {a1 a2 : Int} {F : Int → SM → Prop} (hT : T a1) (hρ : ρ a1 = none) (H : cj iv L h0 A T ρ k d 89 [vr 307, vi a1, vi a2] (ua (ua s 20 a1 a2) 21 a1 0) (qi fun r3 s2 => ((a2 = (-1) → cj iv L h0 A T ρ k d 87 [vr 307, vi a1] (ua s2 19 a1 r3) (qi fun r5 s4 => F r5 s4)) ∧ (a2 ≠ (-1) → ((s2.2 21 a1 ≠ 0 → cj iv L h0 A T ρ k d 87 [vr 307, vi a1] (ua s2 19 a1 r3) (qi fun r7 s6 => F r7 s6)) ∧ (s2.2 21 a1 = 0 → ((s2.2 9 a1 = 10 → cj iv L h0 A T ρ k d 87 [vr 307, vi a1] (ua s2 19 a1 r3) (qi fun r9 s8 => F r9 s8)) ∧ (s2.2 9 a1 ≠ 10 → ((s2.2 9 a1 = 11 → cj iv L h0 A T ρ k d 87 [vr 307, vi a1] (ua s2 19 a1 r3) (qi fun r11 s10 => F r11 s10)) ∧ (s2.2 9 a1 ≠ 11 → cj iv L h0 A T ρ k d 70 [vr 307, vi a2, vi r3] (ua s2 19 a1 r3) (qi fun r13 s12 => ((r13 ≠ 0 → cj iv L h0 A T ρ k d 87 [vr 307, vi a1] s12 (qi fun r15 s14 => F r15 s14)) ∧ (r13 = 0 → cj iv L h0 A T ρ k d 87 [vr 307, vi a1] (ua s12 21 a1 6) (qi fun r17 s16 => F r17 s16)))))))))))))) : cj iv L h0 A T ρ (k + 1) (d + 1) 88 [vr 307, vi a1, vi a2] s (qi F) := by
  intro c a3 hv h3 hk
  refine toQ ?_
  show ck iv L h0 (d + 1) 165 [vr 175, vr (A a1), vi a2, vi a3] c _
  have hk5 := hv.k5 hT
  have h1 := vj_10 (z := 0) (vj_8 (z := a2) hv hT) hT hρ
  have x1 : CXR c (uI (uI c (A a1) 8 a2) (A a1) 10 0) := ⟨(CX.rf.uI (fun _ => ky25 _ _ 8 hk5 (by decide))).uI (fun _ => ky25 _ _ 10 hk5 (by decide)), RMk.rf⟩
  have k3 : kl c 175 = 3 := by simp only [hv.1.1]
  refine C165 ⟨fun _ => ⟨hk5, by omega, k3, cjg (a3 := a3 + 1) H h1 (by omega) (by omega) x1 ?_⟩, fun h => by omega⟩
  rintro r e s2 hv2 hx2 ⟨g1, g2⟩
  have hk5' := hv2.k5 hT
  obtain ⟨d1, d2, d3⟩ := hv2.dy hT
  rw [hρ] at d3
  have d9 : fI e (A a1) 1 = s2.2 9 a1 := (hv2.2.1.2 a1 hT).2.1.1
  have h2 := vj_9 (z := r) hv2 hT
  have x2 : CXR c (uI e (A a1) 9 r) := hx2.t ⟨CX.rf.uI (fun _ => ky25 _ _ 9 hk5' (by decide)), RMk.rf⟩
  have e9 : fI (uI e (A a1) 9 r) (A a1) 9 = r := by rw [fI_uI, if_pos ⟨rfl, rfl⟩]
  have k3' : kl e 175 = 3 := by simp only [hv2.1.1]
  have f3' : fR e 175 0 = 65 := by simp only [hv2.1.1]
  have k4' : kl e 65 = 4 := by simp only [hv2.1.1]
  rw [d3, d9, e9, f3']
  refine ⟨hk5', fun q => cjq (a3 := 0) (g1 q) h2 (Int.le_refl _) (by omega) x2, fun q => ⟨fun q2 => cjq (a3 := 0) ((g2 q).1 q2) h2 (Int.le_refl _) (by omega) x2, fun q2 => ⟨fun q3 => cjq (a3 := 0) (((g2 q).2 q2).1 q3) h2 (Int.le_refl _) (by omega) x2, fun q3 => ⟨fun q4 => cjq (a3 := 0) ((((g2 q).2 q2).2 q3).1 q4) h2 (Int.le_refl _) (by omega) x2, fun q4 => ⟨k3', k4', cjg (a3 := 0) ((((g2 q).2 q2).2 q3).2 q4) h2 (Int.le_refl _) (by omega) x2 ?_⟩⟩⟩⟩⟩
  rintro r5 e5 s5 hv5 hx5 ⟨g5, g6⟩
  have hk55 := hv5.k5 hT
  exact ⟨fun q => ⟨hk55, cjq (a3 := 0) (g5 q) hv5 (Int.le_refl _) (by omega) hx5⟩, fun q => ⟨hk55, cjq (a3 := 0) (g6 q) (vj_10 hv5 hT hρ) (Int.le_refl _) (by omega) (hx5.t ⟨CX.rf.uI (fun _ => ky25 _ _ 10 hk55 (by decide)), RMk.rf⟩)⟩⟩
/-- a node and its parts -/
theorem VJ.st (h : VJ A T ρ c s) {b : Int} (hb : T b) : kl c (A b) = 5 ∧ fI c (A b) 1 = s.2 9 b ∧ fI c (A b) 4 = s.2 10 b ∧ fI c (A b) 2 = s.2 11 b ∧ fR c (A b) 3 = A b + 1 ∧ kl c (A b + 1) = 103 ∧ le c (A b + 1) = pO (s.2 9 b) ∧ (∀ i, 0 ≤ i → i < pO (s.2 9 b) → aR c (A b + 1) i = A (s.2 14 (3 * b + i)) ∧ T (s.2 14 (3 * b + i))) := by
  obtain ⟨⟨p1, p2, p3, p4⟩, ⟨p5, p6, p7, p8⟩, ⟨p9, p10, p11⟩, p12⟩ := h.2.1.2 b hb
  exact ⟨p2, p5, p6, p7, p8, p3, p4, p12⟩
theorem VJ.p0 (h : VJ A T ρ c s) {b : Int} (hb : T b) (hp : 0 < pO (s.2 9 b)) : aR c (A b + 1) 0 = A (s.2 14 (3 * b)) ∧ T (s.2 14 (3 * b)) := by
  have := (h.st hb).2.2.2.2.2.2.2 0 (Int.le_refl _) hp
  rw [Int.add_zero] at this
  exact this

theorem dmk_0 {a1 a2 : Int} {F : Int → SM → Prop} (hT : T a1) (e : s.2 9 a1 = 0) (H : F 0 s) : cj iv L h0 A T ρ k (d + 1) 89 [vr 307, vi a1, vi a2] s (qi F) := by
  intro c a3 hv h3 hk
  refine toQ ?_
  show ck iv L h0 (d + 1) 166 [vr 175, vr (A a1), vi a2, vi a3] c _
  obtain ⟨n1, n2, n3, n4, n5, n6, n7, n8⟩ := hv.st hT
  have k3 : kl c 175 = 3 := by simp only [hv.1.1]
  refine C166 ⟨n1, ?_⟩
  rw [n2, n5, n6, n7]
  refine ⟨fun q => by exfalso; omega, fun q => by exfalso; omega, fun q => by exfalso; omega, fun q => by exfalso; omega, fun q => by exfalso; omega, fun q => by exfalso; omega, fun q => by exfalso; omega, fun q => by exfalso; omega, fun q => by exfalso; omega, fun q => by exfalso; omega, fun q => by exfalso; omega, ?_⟩
  exact fun _ => ⟨s, hv, ⟨CX.rf, RMk.rf⟩, H⟩
theorem dmk_1 {a1 a2 : Int} {F : Int → SM → Prop} (hT : T a1) (e : s.2 9 a1 = 1) (H : F 1 s) : cj iv L h0 A T ρ k (d + 1) 89 [vr 307, vi a1, vi a2] s (qi F) := by
  intro c a3 hv h3 hk
  refine toQ ?_
  show ck iv L h0 (d + 1) 166 [vr 175, vr (A a1), vi a2, vi a3] c _
  obtain ⟨n1, n2, n3, n4, n5, n6, n7, n8⟩ := hv.st hT
  have k3 : kl c 175 = 3 := by simp only [hv.1.1]
  refine C166 ⟨n1, ?_⟩
  rw [n2, n5, n6, n7]
  refine ⟨?_, fun q => by exfalso; omega, fun q => by exfalso; omega, fun q => by exfalso; omega, fun q => by exfalso; omega, fun q => by exfalso; omega, fun q => by exfalso; omega, fun q => by exfalso; omega, fun q => by exfalso; omega, fun q => by exfalso; omega, fun q => by exfalso; omega, fun q => by exfalso; omega⟩
  exact fun _ => ⟨s, hv, ⟨CX.rf, RMk.rf⟩, H⟩
theorem dmk_2 {a1 a2 : Int} {F : Int → SM → Prop} (hT : T a1) (e : s.2 9 a1 = 2) (H : F 2 s) : cj iv L h0 A T ρ k (d + 1) 89 [vr 307, vi a1, vi a2] s (qi F) := by
  intro c a3 hv h3 hk
  refine toQ ?_
  show ck iv L h0 (d + 1) 166 [vr 175, vr (A a1), vi a2, vi a3] c _
  obtain ⟨n1, n2, n3, n4, n5, n6, n7, n8⟩ := hv.st hT
  have k3 : kl c 175 = 3 := by simp only [hv.1.1]
  refine C166 ⟨n1, ?_⟩
  rw [n2, n5, n6, n7]
  refine ⟨fun q => by exfalso; omega, ?_, fun q => by exfalso; omega, fun q => by exfalso; omega, fun q => by exfalso; omega, fun q => by exfalso; omega, fun q => by exfalso; omega, fun q => by exfalso; omega, fun q => by exfalso; omega, fun q => by exfalso; omega, fun q => by exfalso; omega, fun q => by exfalso; omega⟩
  exact fun _ => ⟨s, hv, ⟨CX.rf, RMk.rf⟩, H⟩
theorem dmk_4 {a1 a2 : Int} {F : Int → SM → Prop} (hT : T a1) (e : s.2 9 a1 = 4 ∨ s.2 9 a1 = 5 ∨ s.2 9 a1 = 6 ∨ s.2 9 a1 = 7) (H : cj iv L h0 A T ρ k d 88 [vr 307, vi (s.2 14 (3 * a1)), vi 1] s (qi fun _ s1 => s1.2 9 a1 = s.2 9 a1 ∧ cj iv L h0 A T ρ k d 88 [vr 307, vi (s1.2 14 (3 * a1 + 1)), vi 1] s1 (qi fun _ s2 => (s2.2 9 a1 ≠ 7 → F 1 s2) ∧ (s2.2 9 a1 = 7 → F 2 s2)))) : cj iv L h0 A T ρ k (d + 1) 89 [vr 307, vi a1, vi a2] s (qi F) := by
  intro c a3 hv h3 hk
  refine toQ ?_
  show ck iv L h0 (d + 1) 166 [vr 175, vr (A a1), vi a2, vi a3] c _
  obtain ⟨n1, n2, n3, n4, n5, n6, n7, n8⟩ := hv.st hT
  have k3 : kl c 175 = 3 := by simp only [hv.1.1]
  refine C166 ⟨n1, ?_⟩
  rw [n2, n5, n6, n7]
  refine ⟨fun q => by exfalso; omega, fun q => by exfalso; omega, fun q => by exfalso; omega, ?_, fun q => by exfalso; omega, fun q => by exfalso; omega, fun q => by exfalso; omega, fun q => by exfalso; omega, fun q => by exfalso; omega, fun q => by exfalso; omega, fun q => by exfalso; omega, fun q => by exfalso; omega⟩
  intro _
  have hp : pO (s.2 9 a1) = 2 := by rcases e with e | e | e | e <;> rw [e] <;> rfl
  obtain ⟨p0, p0T⟩ := hv.p0 hT (by omega)
  rw [hp, p0]
  refine ⟨rfl, by omega, k3, cjg (a3 := a3) H hv h3 hk ⟨CX.rf, RMk.rf⟩ ?_⟩
  rintro r e1 s1 hv1 hx1 ⟨g0, g1⟩
  obtain ⟨m1, m2, m3, m4, m5, m6, m7, m8⟩ := hv1.st hT
  have k3' : kl e1 175 = 3 := by simp only [hv1.1.1]
  rw [m5, m6, m7, g0, hp, (m8 1 (by decide) (by rw [g0, hp]; decide)).1]
  refine ⟨m1, rfl, by omega, k3', cjg (a3 := a3) g1 hv1 h3 hk hx1 ?_⟩
  rintro r2 e2 s2 hv2 hx2 ⟨g2, g3⟩
  have l1 := hv2.st hT
  rw [l1.2.1]
  exact ⟨l1.1, fun q => ⟨s2, hv2, hx2, g2 q⟩, fun q => ⟨s2, hv2, hx2, g3 q⟩⟩
theorem dmk_5 {a1 a2 : Int} {F : Int → SM → Prop} (hT : T a1) (e : s.2 9 a1 = 8) (H : cj iv L h0 A T ρ k d 90 [vr 307, vi a1, vi a2] s (qi F)) : cj iv L h0 A T ρ k (d + 1) 89 [vr 307, vi a1, vi a2] s (qi F) := by
  intro c a3 hv h3 hk
  refine toQ ?_
  show ck iv L h0 (d + 1) 166 [vr 175, vr (A a1), vi a2, vi a3] c _
  obtain ⟨n1, n2, n3, n4, n5, n6, n7, n8⟩ := hv.st hT
  have k3 : kl c 175 = 3 := by simp only [hv.1.1]
  refine C166 ⟨n1, ?_⟩
  rw [n2, n5, n6, n7]
  refine ⟨fun q => by exfalso; omega, fun q => by exfalso; omega, fun q => by exfalso; omega, fun q => by exfalso; omega, ?_, fun q => by exfalso; omega, fun q => by exfalso; omega, fun q => by exfalso; omega, fun q => by exfalso; omega, fun q => by exfalso; omega, fun q => by exfalso; omega, fun q => by exfalso; omega⟩
  exact fun _ => ⟨k3, cjq (a3 := a3) H hv h3 hk ⟨CX.rf, RMk.rf⟩⟩
theorem dmk_8 {a1 a2 : Int} {F : Int → SM → Prop} (hT : T a1) (e : s.2 9 a1 = 11) (H : cj iv L h0 A T ρ k d 92 [vr 307, vi a1, vi a2] s (qi F)) : cj iv L h0 A T ρ k (d + 1) 89 [vr 307, vi a1, vi a2] s (qi F) := by
  intro c a3 hv h3 hk
  refine toQ ?_
  show ck iv L h0 (d + 1) 166 [vr 175, vr (A a1), vi a2, vi a3] c _
  obtain ⟨n1, n2, n3, n4, n5, n6, n7, n8⟩ := hv.st hT
  have k3 : kl c 175 = 3 := by simp only [hv.1.1]
  refine C166 ⟨n1, ?_⟩
  rw [n2, n5, n6, n7]
  refine ⟨fun q => by exfalso; omega, fun q => by exfalso; omega, fun q => by exfalso; omega, fun q => by exfalso; omega, fun q => by exfalso; omega, fun q => by exfalso; omega, fun q => by exfalso; omega, ?_, fun q => by exfalso; omega, fun q => by exfalso; omega, fun q => by exfalso; omega, fun q => by exfalso; omega⟩
  exact fun _ => ⟨k3, cjq (a3 := a3) H hv h3 hk ⟨CX.rf, RMk.rf⟩⟩
theorem dmk_9 {a1 a2 : Int} {F : Int → SM → Prop} (hT : T a1) (e : s.2 9 a1 = 12) (H : cj iv L h0 A T ρ k d 93 [vr 307, vi a1, vi a2] s (qi F)) : cj iv L h0 A T ρ k (d + 1) 89 [vr 307, vi a1, vi a2] s (qi F) := by
  intro c a3 hv h3 hk
  refine toQ ?_
  show ck iv L h0 (d + 1) 166 [vr 175, vr (A a1), vi a2, vi a3] c _
  obtain ⟨n1, n2, n3, n4, n5, n6, n7, n8⟩ := hv.st hT
  have k3 : kl c 175 = 3 := by simp only [hv.1.1]
  refine C166 ⟨n1, ?_⟩
  rw [n2, n5, n6, n7]
  refine ⟨fun q => by exfalso; omega, fun q => by exfalso; omega, fun q => by exfalso; omega, fun q => by exfalso; omega, fun q => by exfalso; omega, fun q => by exfalso; omega, fun q => by exfalso; omega, fun q => by exfalso; omega, ?_, fun q => by exfalso; omega, fun q => by exfalso; omega, fun q => by exfalso; omega⟩
  exact fun _ => ⟨k3, cjq (a3 := a3) H hv h3 hk ⟨CX.rf, RMk.rf⟩⟩
theorem dmk_6 {a1 a2 : Int} {F : Int → SM → Prop} (hT : T a1) (e : s.2 9 a1 = 9) (H : cj iv L h0 A T ρ k d 91 [vr 307, vi a1] s (qi F)) : cj iv L h0 A T ρ k (d + 1) 89 [vr 307, vi a1, vi a2] s (qi F) := by
  intro c a3 hv h3 hk
  refine toQ ?_
  show ck iv L h0 (d + 1) 166 [vr 175, vr (A a1), vi a2, vi a3] c _
  obtain ⟨n1, n2, n3, n4, n5, n6, n7, n8⟩ := hv.st hT
  have k3 : kl c 175 = 3 := by simp only [hv.1.1]
  refine C166 ⟨n1, ?_⟩
  rw [n2, n5, n6, n7]
  refine ⟨fun q => by exfalso; omega, fun q => by exfalso; omega, fun q => by exfalso; omega, fun q => by exfalso; omega, fun q => by exfalso; omega, ?_, fun q => by exfalso; omega, fun q => by exfalso; omega, fun q => by exfalso; omega, fun q => by exfalso; omega, fun q => by exfalso; omega, fun q => by exfalso; omega⟩
  exact fun _ => ⟨k3, cjq (a3 := a3) H hv h3 hk ⟨CX.rf, RMk.rf⟩⟩
theorem dmk_10 {a1 a2 : Int} {F : Int → SM → Prop} (hT : T a1) (e : s.2 9 a1 = 13 ∨ s.2 9 a1 = 14) (H : cj iv L h0 A T ρ k d 94 [vr 307, vi a1] s (qi F)) : cj iv L h0 A T ρ k (d + 1) 89 [vr 307, vi a1, vi a2] s (qi F) := by
  intro c a3 hv h3 hk
  refine toQ ?_
  show ck iv L h0 (d + 1) 166 [vr 175, vr (A a1), vi a2, vi a3] c _
  obtain ⟨n1, n2, n3, n4, n5, n6, n7, n8⟩ := hv.st hT
  have k3 : kl c 175 = 3 := by simp only [hv.1.1]
  refine C166 ⟨n1, ?_⟩
  rw [n2, n5, n6, n7]
  refine ⟨fun q => by exfalso; omega, fun q => by exfalso; omega, fun q => by exfalso; omega, fun q => by exfalso; omega, fun q => by exfalso; omega, fun q => by exfalso; omega, fun q => by exfalso; omega, fun q => by exfalso; omega, fun q => by exfalso; omega, ?_, fun q => by exfalso; omega, fun q => by exfalso; omega⟩
  exact fun _ => ⟨k3, cjq (a3 := a3) H hv h3 hk ⟨CX.rf, RMk.rf⟩⟩
theorem dmk_7 {a1 a2 : Int} {F : Int → SM → Prop} (hT : T a1) (e : s.2 9 a1 = 10) (H : cj iv L h0 A T ρ k d 88 [vr 307, vi (s.2 14 (3 * a1)), vi (-1)] s (qi fun _ s1 => s1.2 9 a1 = s.2 9 a1 ∧ cj iv L h0 A T ρ k d 88 [vr 307, vi (s1.2 14 (3 * a1 + 1)), vi a2] s1 (qi F))) : cj iv L h0 A T ρ k (d + 1) 89 [vr 307, vi a1, vi a2] s (qi F) := by
  intro c a3 hv h3 hk
  refine toQ ?_
  show ck iv L h0 (d + 1) 166 [vr 175, vr (A a1), vi a2, vi a3] c _
  obtain ⟨n1, n2, n3, n4, n5, n6, n7, n8⟩ := hv.st hT
  have k3 : kl c 175 = 3 := by simp only [hv.1.1]
  refine C166 ⟨n1, ?_⟩
  rw [n2, n5, n6, n7]
  refine ⟨fun q => by exfalso; omega, fun q => by exfalso; omega, fun q => by exfalso; omega, fun q => by exfalso; omega, fun q => by exfalso; omega, fun q => by exfalso; omega, ?_, fun q => by exfalso; omega, fun q => by exfalso; omega, fun q => by exfalso; omega, fun q => by exfalso; omega, fun q => by exfalso; omega⟩
  intro _
  have hp : pO (s.2 9 a1) = 2 := by rw [e]; rfl
  obtain ⟨p0, p0T⟩ := hv.p0 hT (by omega)
  rw [hp, p0]
  refine ⟨rfl, by omega, k3, cjg (a3 := a3) H hv h3 hk ⟨CX.rf, RMk.rf⟩ ?_⟩
  rintro r e1 s1 hv1 hx1 ⟨g0, g1⟩
  obtain ⟨m1, m2, m3, m4, m5, m6, m7, m8⟩ := hv1.st hT
  have k3' : kl e1 175 = 3 := by simp only [hv1.1.1]
  rw [m5, m6, m7, g0, hp, (m8 1 (by decide) (by rw [g0, hp]; decide)).1]
  exact ⟨m1, rfl, by omega, k3', cjq (a3 := a3) g1 hv1 h3 hk hx1⟩
theorem dmk_11 {a1 a2 : Int} {F : Int → SM → Prop} (hT : T a1) (e : s.2 9 a1 = 15) (H : cj iv L h0 A T ρ k d 88 [vr 307, vi (s.2 14 (3 * a1)), vi (s.2 11 a1)] s (qi fun _ s1 => F (s1.2 11 a1) s1)) : cj iv L h0 A T ρ k (d + 1) 89 [vr 307, vi a1, vi a2] s (qi F) := by
  intro c a3 hv h3 hk
  refine toQ ?_
  show ck iv L h0 (d + 1) 166 [vr 175, vr (A a1), vi a2, vi a3] c _
  obtain ⟨n1, n2, n3, n4, n5, n6, n7, n8⟩ := hv.st hT
  have k3 : kl c 175 = 3 := by simp only [hv.1.1]
  refine C166 ⟨n1, ?_⟩
  rw [n2, n5, n6, n7]
  refine ⟨fun q => by exfalso; omega, fun q => by exfalso; omega, fun q => by exfalso; omega, fun q => by exfalso; omega, fun q => by exfalso; omega, fun q => by exfalso; omega, fun q => by exfalso; omega, fun q => by exfalso; omega, fun q => by exfalso; omega, fun q => by exfalso; omega, ?_, fun q => by exfalso; omega⟩
  intro _
  have hp : pO (s.2 9 a1) = 1 := by rw [e]; rfl
  obtain ⟨p0, p0T⟩ := hv.p0 hT (by omega)
  rw [hp, p0, n4]
  refine ⟨rfl, by omega, k3, cjg (a3 := a3) H hv h3 hk ⟨CX.rf, RMk.rf⟩ ?_⟩
  rintro r e1 s1 hv1 hx1 g
  obtain ⟨m1, m2, m3, m4, m5, m6, m7, m8⟩ := hv1.st hT
  rw [m4]
  exact ⟨m1, s1, hv1, hx1, g⟩
theorem dmk_3 {a1 a2 : Int} {F : Int → SM → Prop} (hT : T a1) (hρ : ρ a1 = none) (e : s.2 9 a1 = 3) (hD : DP (s.2 12) 70 a1) (H : (bds s a1 (s.2 10 a1) = -9 → F 0 (ua s 21 a1 1)) ∧ (bds s a1 (s.2 10 a1) ≠ -9 → T (bds s a1 (s.2 10 a1)) → (s.2 9 (bds s a1 (s.2 10 a1)) = 8 → F (s.2 11 (bds s a1 (s.2 10 a1))) s) ∧ (s.2 9 (bds s a1 (s.2 10 a1)) ≠ 8 → 0 < pO (s.2 9 (bds s a1 (s.2 10 a1))) ∧ ρ (s.2 14 (3 * bds s a1 (s.2 10 a1))) = none ∧ (s.2 21 (s.2 14 (3 * bds s a1 (s.2 10 a1))) ≠ 0 → F 0 s) ∧ (s.2 21 (s.2 14 (3 * bds s a1 (s.2 10 a1))) = 0 → F (s.2 19 (s.2 14 (3 * bds s a1 (s.2 10 a1)))) s)))) : cj iv L h0 A T ρ k (d + 1 + 1) 89 [vr 307, vi a1, vi a2] s (qi F) := by
  intro c a3 hv h3 hk
  refine toQ ?_
  show ck iv L h0 (d + 1 + 1) 166 [vr 175, vr (A a1), vi a2, vi a3] c _
  obtain ⟨n1, n2, n3, n4, n5, n6, n7, n8⟩ := hv.st hT
  have k3 : kl c 175 = 3 := by simp only [hv.1.1]
  refine C166 ⟨n1, ?_⟩
  rw [n2, n5, n6, n7]
  refine ⟨fun q => by exfalso; omega, fun q => by exfalso; omega, ?_, fun q => by exfalso; omega, fun q => by exfalso; omega, fun q => by exfalso; omega, fun q => by exfalso; omega, fun q => by exfalso; omega, fun q => by exfalso; omega, fun q => by exfalso; omega, fun q => by exfalso; omega, fun q => by exfalso; omega⟩
  intro _
  have hTb := bnd_T (T := T) (so := s.2 9) (nu := s.2 10) (pl := s.2 13) (fun b hb => (hv.2.1.2 b hb).2.2.1.2.2) 70 a1 (s.2 10 a1) hT
  refine ⟨k3, C167 ⟨n1, ?_⟩⟩
  rw [n3]
  refine nb0_ok hv.2.1 hT hD ?_
  generalize hu : bnd (s.2 9) (s.2 10) (s.2 12) (s.2 13) 70 a1 (s.2 10 a1) = u at *
  have hu : bds s a1 (s.2 10 a1) = u := hu
  rw [hu] at H
  by_cases hn : u = -9
  · rw [hn, hv.2.1.1.1]
    exact ⟨fun q => absurd rfl q, fun _ => ⟨n1, _, vj_10 hv hT hρ, ⟨CX.rf.uI (fun _ => ky25 _ _ 10 n1 (by decide)), RMk.rf⟩, H.1 hn⟩⟩
  · have hT2 := hTb.resolve_left hn
    obtain ⟨g1, g2⟩ := H.2 hn hT2
    have h64 := (hv.2.1.2 u hT2).1.1
    obtain ⟨m1, m2, m3, m4, m5, m6, m7, m8⟩ := hv.st hT2
    rw [m2, m4, m5, m6, m7]
    refine ⟨fun _ => ⟨m1, fun e8 => ?_, fun e8 => ⟨s, hv, ⟨CX.rf, RMk.rf⟩, g1 e8⟩⟩, fun q => by omega⟩
    obtain ⟨g3, g4, g5⟩ := g2 e8
    obtain ⟨p0, p0T⟩ := hv.p0 hT2 g3
    rw [p0]
    exact ⟨rfl, ⟨by omega, g3⟩, hv.k5 p0T, cjq (a3 := 0) (k' := k) (d' := d) (M := 87) (as := [vr 307, vi (s.2 14 (3 * u))]) (D87 p0T g4 g5) hv (Int.le_refl _) (by omega) ⟨CX.rf, RMk.rf⟩⟩
end
