/-! The rules of judging, by the desk's methods. -/
section
variable {iv : List (Int × Int)} {L : Nat} {h0 : MH} {A : Int → Nat} {T : Int → Prop} {ρ : Int → Option Int} {c e f : SC} {s w : SM} {k d M : Nat}
theorem vj_8 {b z : Int} (h : VJ A T ρ c s) (hb : T b) : VJ A T ρ (uI c (A b) 8 z) (ua s 20 b z) := by
  obtain ⟨h1, h2, h3, h4⟩ := h
  refine ⟨h1, ?_, fun x hx => ?_, h4.1.imp (fun q => by rw [fI_uI, if_neg (by omega)]; exact q) (fun q => by rw [fI_uI, if_neg (by omega)]; exact q), h4.2⟩
  · exact js_uI h2 (Or.inl rfl)
  · obtain ⟨q1, q2, q3⟩ := h3 x hx
    refine ⟨?_, ?_, ?_⟩
    · rw [fI_uI, ua_2]
      by_cases e : x = b
      · subst e; rw [if_pos ⟨rfl, rfl⟩, if_pos ⟨rfl, rfl⟩]
      · rw [if_neg (fun q => e (h2.1.2 _ _ hx hb q.2)), if_neg (fun q => e q.2)]; exact q1
    · rw [fI_uI, if_neg (by omega), ua_2, if_neg (by omega)]; exact q2
    · rw [fI_uI, if_neg (by omega), ua_2, if_neg (by omega)]; exact q3
theorem vj_9 {b z : Int} (h : VJ A T ρ c s) (hb : T b) : VJ A T ρ (uI c (A b) 9 z) (ua s 19 b z) := by
  obtain ⟨h1, h2, h3, h4⟩ := h
  refine ⟨h1, ?_, fun x hx => ?_, h4.1.imp (fun q => by rw [fI_uI, if_neg (by omega)]; exact q) (fun q => by rw [fI_uI, if_neg (by omega)]; exact q), h4.2⟩
  · exact js_uI h2 (Or.inr (Or.inl rfl))
  · obtain ⟨q1, q2, q3⟩ := h3 x hx
    refine ⟨?_, ?_, ?_⟩
    · rw [fI_uI, if_neg (by omega), ua_2, if_neg (by omega)]; exact q1
    · rw [fI_uI, ua_2]
      by_cases e : x = b
      · subst e; rw [if_pos ⟨rfl, rfl⟩, if_pos ⟨rfl, rfl⟩]
      · rw [if_neg (fun q => e (h2.1.2 _ _ hx hb q.2)), if_neg (fun q => e q.2)]; exact q2
    · rw [fI_uI, if_neg (by omega), ua_2, if_neg (by omega)]; exact q3
theorem vj_10 {b z : Int} (h : VJ A T ρ c s) (hb : T b) (hρ : ρ b = none) : VJ A T ρ (uI c (A b) 10 z) (ua s 21 b z) := by
  obtain ⟨h1, h2, h3, h4⟩ := h
  refine ⟨h1, ?_, fun x hx => ?_, h4.1.imp (fun q => by rw [fI_uI, if_neg (by omega)]; exact q) (fun q => by rw [fI_uI, if_neg (by omega)]; exact q), h4.2⟩
  · exact js_uI h2 (Or.inr (Or.inr rfl))
  · obtain ⟨q1, q2, q3⟩ := h3 x hx
    refine ⟨?_, ?_, ?_⟩
    · rw [fI_uI, if_neg (by omega), ua_2, if_neg (by omega)]; exact q1
    · rw [fI_uI, if_neg (by omega), ua_2, if_neg (by omega)]; exact q2
    · rw [fI_uI, ua_2]
      by_cases e : x = b
      · subst e; rw [if_pos ⟨rfl, rfl⟩, if_pos ⟨rfl, rfl⟩, hρ]; rfl
      · rw [if_neg (fun q => e (h2.1.2 _ _ hx hb q.2)), if_neg (fun q => e q.2)]; exact q3
/-- another reason for now -/
def ro (ρ : Int → Option Int) (b z : Int) : Int → Option Int := fun x => if x = b then some z else ρ x
theorem vj_ro {b z : Int} (h : VJ A T ρ c s) (hb : T b) : VJ A T (ro ρ b z) (uI c (A b) 10 z) s := by
  obtain ⟨h1, h2, h3, h4⟩ := h
  refine ⟨h1, ?_, fun x hx => ?_, h4.1.imp (fun q => by rw [fI_uI, if_neg (by omega)]; exact q) (fun q => by rw [fI_uI, if_neg (by omega)]; exact q), h4.2⟩
  · exact js_uI h2 (Or.inr (Or.inr rfl))
  · obtain ⟨q1, q2, q3⟩ := h3 x hx
    refine ⟨?_, ?_, ?_⟩
    · rw [fI_uI, if_neg (by omega)]; exact q1
    · rw [fI_uI, if_neg (by omega)]; exact q2
    · unfold ro
      rw [fI_uI]
      by_cases e : x = b
      · subst e; rw [if_pos ⟨rfl, rfl⟩, if_pos rfl]; rfl
      · rw [if_neg (fun q => e (h2.1.2 _ _ hx hb q.2)), if_neg e]; exact q3
theorem vj_or {b z : Int} (h : VJ A T (ro ρ b z) c s) (hρ : ρ b = none) : VJ A T ρ c (ua s 21 b z) := by
  obtain ⟨h1, h2, h3, h4⟩ := h
  refine ⟨h1, h2, fun x hx => ?_, h4⟩
  obtain ⟨q1, q2, q3⟩ := h3 x hx
  refine ⟨?_, ?_, ?_⟩
  · rw [ua_2, if_neg (by omega)]; exact q1
  · rw [ua_2, if_neg (by omega)]; exact q2
  · rw [ua_2]
    unfold ro at q3
    by_cases e : x = b
    · subst e
      rw [if_pos rfl] at q3
      rw [if_pos ⟨rfl, rfl⟩, hρ]
      exact q3
    · rw [if_neg e] at q3
      rw [if_neg (fun q => e q.2)]
      exact q3
theorem cxj_w {a q : Nat} {z : Int} (h : kl c a = 5) (hy : q = 8 ∨ q = 9 ∨ q = 10) : CX jys jrs c (uI c a q z) ∧ RMk 0 0 c (uI c a q z) := ⟨CX.rf.uI (fun _ => ky25 a _ q h hy), RMk.rf⟩
theorem VJ.k5 (h : VJ A T ρ c s) {b : Int} (hb : T b) : kl c (A b) = 5 := (h.2.1.2 b hb).1.2.1
theorem VJ.dy (h : VJ A T ρ c s) {b : Int} (hb : T b) : fI c (A b) 8 = s.2 20 b ∧ fI c (A b) 9 = s.2 19 b ∧ fI c (A b) 10 = (ρ b).getD (s.2 21 b) := h.2.2.1 b hb
/-- a row of kinds is written -/
theorem vj_row {r i a b z : Int} (h : VJ A T ρ c s) : VJ A T ρ (uA (uA (uA (uA c 66 r i) 67 r a) 68 r b) 69 r z) (ua (ua (ua (ua s 4 r i) 5 r a) 6 r b) 7 r z) := by
  obtain ⟨h1, h2, h3, h4, e4, e5, e6, e7⟩ := h
  refine ⟨h1, h2, h3, h4, ?_, ?_, ?_, ?_⟩
  · funext j
    simp only [aI_uA, ua_2, e4]
    simp
  · funext j
    simp only [aI_uA, ua_2, e5]
    simp
  · funext j
    simp only [aI_uA, ua_2, e6]
    simp
  · funext j
    simp only [aI_uA, ua_2, e7]
    simp
theorem vj_used {z : Int} (h : VJ A T ρ c s) : VJ A T ρ (uI c 65 5 z) (us s 3 z) := by
  obtain ⟨h1, h2, h3, ⟨g1, g2⟩, h5⟩ := h
  have hk : kl c 65 = 4 := by simp only [h1.1]
  have ne : ∀ b, T b → A b ≠ 65 := fun b hb q => by
    have := (h2.2 b hb).1.2.1
    rw [q, hk] at this
    omega
  have e : ∀ b, T b → ∀ y, fI (uI c 65 5 z) (A b) y = fI c (A b) y := fun b hb y => by rw [fI_uI, if_neg (fun q => ne b hb q.2)]
  refine ⟨h1, ⟨h2.1, fun b hb => ?_⟩, fun b hb => ?_, ⟨?_, ?_⟩, h5⟩
  · obtain ⟨p1, ⟨p2, p3, p4, p5⟩, ⟨p6, p7, p8⟩, p9⟩ := h2.2 b hb
    exact ⟨p1, ⟨(e b hb _).trans p2, (e b hb _).trans p3, (e b hb _).trans p4, p5⟩, ⟨p6, fun q => (e b hb _).trans (p7 q), p8⟩, p9⟩
  · obtain ⟨q1, q2, q3⟩ := h3 b hb
    exact ⟨(e b hb _).trans q1, (e b hb _).trans q2, (e b hb _).trans q3⟩
  · rw [fI_uI, if_neg (by omega), us_1, if_neg (by decide)]; exact g1
  · rw [fI_uI, if_pos ⟨rfl, rfl⟩, us_1, if_pos rfl]

/-- answers that are ints -/
def QF (A : Int → Nat) (T : Int → Prop) (ρ : Int → Option Int) (c : SC) (F : Int → SM → Prop) (z : Int) (e : SC) : Prop := ∃ w, VJ A T ρ e w ∧ (CX jys jrs c e ∧ RMk 0 0 c e) ∧ F z w
theorem toQ {as : List VV} {F : Int → SM → Prop} (h : ck iv L h0 d M as c (qi (QF A T ρ f F))) : ck iv L h0 d M as c (QJ A T ρ f (qi F)) := wc_mono h (Nat.le_refl _) (fun v e ⟨z, q1, w, a, b, q2⟩ => ⟨w, a, b, z, q1, q2⟩)
theorem inQ {as : List VV} {F : Int → SM → Prop} {d' : Nat} {G : Int → SC → Prop} (h : ck iv L h0 d M as c (QJ A T ρ c (qi F))) (hd : d ≤ d') (hG : ∀ z e w, VJ A T ρ e w → CX jys jrs c e ∧ RMk 0 0 c e → F z w → G z e) : ck iv L h0 d' M as c (qi G) := wc_mono h hd (fun v e ⟨w, a, b, z, q1, q2⟩ => ⟨z, q1, hG z e w a b q2⟩)
theorem QF.tr {F : Int → SM → Prop} {z : Int} (h1 : CX jys jrs c e ∧ RMk 0 0 c e) (h : QF A T ρ e F z f) : QF A T ρ c F z f := by
  obtain ⟨w, a, ⟨b1, b2⟩, q⟩ := h
  exact ⟨w, a, ⟨h1.1.tr b1, h1.2.tr b2⟩, q⟩
theorem sizeWith_ok {a b : Int} {F : Int → SC → Prop} (hv : FIX c ∧ JKi c s) (ha : 0 ≤ a ∧ a < 1440) (hb : 0 ≤ b ∧ b < 1440) (hz : 1 ≤ s.2 7 a ∧ s.2 7 a ≤ 40) (hz' : 1 ≤ s.2 7 b ∧ s.2 7 b ≤ 40) (hF : F (1 + s.2 7 a + s.2 7 b) c) : ck iv L h0 d 177 [vr 65, vi a, vi b] c (qi F) := by
  obtain ⟨h1, h4, e4, e5, e6, e7⟩ := hv
  refine C177 ?_
  simp only [h1.1, e7, true_and]
  refine ⟨by omega, by omega, by omega, by omega, hF⟩
theorem makeKind_okd {i a b : Int} (hs : KJs s) (hi : i = 3 ∨ i = 4) (ha : vks s a) (hb : vks s b) (hm : s.1 3 < 1440) : cj iv L h0 A T ρ k 1 65 [vr 307, vi i, vi a, vi b] s (qi fun r t => eqx [3] [4, 5, 6, 7] s t ∧ KJs t ∧ kext s t ∧ t.1 3 ≤ s.1 3 + 1 ∧ vks t r ∧ kts t r = kmk i (kts s a) (kts s b)) := by
  intro c a3 hv h3 hk
  have hm0 := hs.2.1
  have hn := hs.1.1
  have za := (hs.at ha).1
  have zb := (hs.at hb).1
  have la := ha.lt hn.2 hm0
  have lb := hb.lt hn.2 hm0
  have za' : ksz (kts s a) = s.2 7 a := kt_sz hs ha
  have zb' : ksz (kts s b) = s.2 7 b := kt_sz hs hb
  have hX := hv.1
  refine toQ ?_
  show ck iv L h0 (0 + 1) 181 [vr 65, vi i, vi a, vi b] c _
  refine C181 ⟨by simp only [hX.1], sizeWith_ok ⟨hX, hv.2.2.2⟩ (by omega) (by omega) za zb ⟨fun h40 => ?_, fun h40 => ⟨by simp only [hX.1], ?_⟩⟩⟩
  · refine ⟨s, hv, ⟨CX.rf, RMk.rf⟩, eqx.rf, hs, kext.rf, by omega, Or.inl ⟨by omega, by omega⟩, ?_⟩
    unfold kmk
    rw [za', zb', if_pos (by omega)]
    exact (kt_leaf hs).1 (hs.1.2.1 0 (by omega) (by omega)).1
  · obtain ⟨p1, p2, p3⟩ := kj_push hs hi ha hb (by omega)
    have e5 : fI c 65 5 = s.1 3 := hv.2.2.2.1.2
    rw [e5]
    refine ⟨fun _ => C175 ?_, fun q => by omega⟩
    simp only [hX.1, true_and]
    refine ⟨by omega, by omega, by omega, by omega, ?_⟩
    have hv2 := vj_row (r := s.1 3) (i := i) (a := a) (b := b) (z := 1 + s.2 7 a + s.2 7 b) hv
    have h5 : fI (uA (uA (uA (uA c 66 (s.1 3) i) 67 (s.1 3) a) 68 (s.1 3) b) 69 (s.1 3) (1 + s.2 7 a + s.2 7 b)) 65 5 = s.1 3 := hv2.2.2.2.1.2
    rw [h5]
    refine ⟨by simp only [kl_uA, hX.1], by omega, _, vj_used hv2, ⟨?_, ?_⟩, ?_, p1, p2, ?_, Or.inr ⟨hm0, ?_⟩, p3⟩
    · refine CX.uI (CX.uA (CX.uA (CX.uA (CX.uA CX.rf ?_) ?_) ?_) ?_) ?_
      · intro _; unfold rk; rw [if_pos (by decide)]; decide
      · intro _; unfold rk; rw [if_pos (by decide)]; decide
      · intro _; unfold rk; rw [if_pos (by decide)]; decide
      · intro _; unfold rk; rw [if_pos (by decide)]; decide
      · intro _; simp only [kl_uA, hX.1]; decide
    · exact RMk.rf
    · exact eqx_us (eqx_ua (eqx_ua (eqx_ua (eqx_ua eqx.rf (by decide)) (by decide)) (by decide)) (by decide)) (by decide)
    · show s.1 3 + 1 ≤ s.1 3 + 1
      omega
    · show s.1 3 < s.1 3 + 1
      omega
end
