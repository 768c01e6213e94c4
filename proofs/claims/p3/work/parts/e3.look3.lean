/-! Looks by the desk: the box, findings, counts. -/
def BXc (A : Int → Nat) (c : SC) (s : SM) : Prop := fI c 64 12 = s.1 71 ∧ ∀ i, 0 ≤ i → i < 8 → aR c 197 i = A (s.2 72 i - 1)
def FNc (c : SC) (s : SM) : Prop := fI c 64 14 = s.1 0 ∧ ∀ f, 0 ≤ f → f < 6 → aI c 198 f = s.2 1 f
section
variable {iv : List (Int × Int)} {L : Nat} {h0 : MH} {A A' : Int → Nat} {c e : SC} {s s' w : SM} {t : Term} {d : Nat} {ys : List (Nat × Nat)} {rs : List Nat}
theorem cr_ok {a ci y M : Nat} {as : List VV} {X : Option VV → SC → Prop} (hk : kl c a = ci + 1) (hc : ci < 12) (hy : y < nfl ci) (hr : isRf ci y = false) (h : inR (fI c a y) → ck iv L h0 d M as c X) : ck iv L h0 d M as c X := wc_ok (fun _ ⟨H, hH⟩ => by
  obtain ⟨-, -, -, h4, -⟩ := hH
  obtain ⟨fs, -, -, h7⟩ := h4 a ci hk hc
  exact h ((h7 y hy).2 hr).2)
theorem FIX.bx (h : FIX c) : kl c 64 = 1 ∧ fR c 64 10 = 197 ∧ kl c 197 = 103 ∧ le c 197 = 8 ∧ fR c 64 11 = 198 ∧ kl c 198 = 100 ∧ le c 198 = 6 := by
  simp only [h.1]
  exact ⟨trivial, trivial, trivial, trivial, trivial, trivial, trivial⟩
theorem FNc.ref {f : Int} (h : FNc c s) (hf : 0 ≤ f ∧ f < 6) : FNc (refC c f) (mtU s f) := by
  refine ⟨?_, fun g g0 g6 => ?_⟩
  · unfold refC
    rw [fI_uA, fI_uI, if_pos ⟨rfl, rfl⟩]
    rfl
  · unfold refC mtU
    rw [aI_uA, ua_2, us_2]
    by_cases q : g = f
    · subst q
      rw [if_pos ⟨rfl, rfl⟩, if_pos ⟨rfl, rfl⟩, h.2 g g0 g6]
    · rw [if_neg (fun w => q w.2), if_neg (fun w => q w.2)]
      exact h.2 g g0 g6
theorem FNc.x (h : FNc c s) (hX : FIX c) (hx : CX ys rs c e) (hy : (1, 14) ∉ ys) (hr : 198 ∉ rs) : FNc e s := by
  have hk := hX.dk
  have h3 := hX.2.2.1
  refine ⟨by rw [hx.i (a := 64) (by omega) (by rw [hk.1]; exact hy)]; exact h.1, fun f f0 f6 => ?_⟩
  rw [hx.ai (a := 198) (by omega) (by unfold rk; rw [if_pos (by decide)]; exact hr)]
  exact h.2 f f0 f6
theorem BXc.x (h : BXc A c s) (hX : FIX c) (hx : CX ys rs c e) (hy : (1, 12) ∉ ys) (hr : 197 ∉ rs) : BXc A e s := by
  have hk := hX.dk
  have h3 := hX.2.2.1
  refine ⟨by rw [hx.i (a := 64) (by omega) (by rw [hk.1]; exact hy)]; exact h.1, fun f f0 f6 => ?_⟩
  rw [hx.ar (a := 197) (by omega) (by unfold rk; rw [if_pos (by decide)]; exact hr)]
  exact h.2 f f0 f6
theorem BXc.up (h : BXc A c s) (hb : BX s) (hE : EXT A A' (s.1 8)) : BXc A' c s := ⟨h.1, fun i i0 i8 => by
  rw [h.2 i i0 i8]
  have := (hb.2 i i0 i8).2
  exact (hE _ (by omega)).symm⟩
theorem inbox_c {i : Int} {F : Int → SC → Prop} (hX : FIX c) (hb : BXc A c s) (H1 : (0 ≤ i ∧ i < s.1 71) → F 1 c) (H2 : ¬ (0 ≤ i ∧ i < s.1 71) → F 0 c) : ck iv L h0 d 46 [vr 64, vi i] c (qi F) := by
  refine C46 ⟨fun q => H2 (by omega), fun q => ⟨hX.dk.1, ?_⟩⟩
  rw [hb.1]
  exact ⟨fun q2 => H2 (by omega), fun q2 => H1 (by omega)⟩
theorem ref_c {f : Int} {F : Int → SC → Prop} (hX : FIX c) (hf : 0 ≤ f ∧ f < 6) (hn : FNc c s) (hr : ∀ f, 0 ≤ f → f < 6 → 0 ≤ s.2 1 f ∧ s.2 1 f ≤ 600) (hF : F (-3) (refC c f)) : ck iv L h0 d 47 [vr 64, vi f] c (qi F) := refuse_c hX hf (by rw [hn.2 f hf.1 hf.2]; exact hr f hf.1 hf.2) hF
theorem box_c {n : Int} {F : Int → SC → Prop} (hX : FIX c) (hN : ND A c s) (hb : BXc A c s) (hn : FNc c s) (hr : ∀ f, 0 ≤ f → f < 6 → 0 ≤ s.2 1 f ∧ s.2 1 f ≤ 600) (hF : ∀ e, CX [(1, 12), (1, 14)] [197, 198] c e → RMk 0 0 c e → BXc A e (boxU s n) → FNc e (boxU s n) → F (boxA n) e) : ck iv L h0 (d + 1) 31 [vr 64, vi n] c (qi F) := by
  have hk := hX.bx
  have h2 : A (0 - 1) = 2 := hN.1 (0 - 1) (by omega)
  unfold boxA boxU at hF
  refine C31 ⟨fun q => ⟨fun q2 => ?_, fun q2 => ⟨hk.1, ref_c hX (by decide) hn hr ?_⟩⟩, fun q => ?_⟩
  · have key : ∀ (m : Nat) (l : Int) (f : SC), l + m = 8 → 0 ≤ l → SMR [197] [] c f → (∀ j, 0 ≤ j → j < l → aR f 197 j = 2) → wk iv L h0 (d + 1) 31 20 [lr 64, li n, li l] [] f (qi F) := by
      intro m
      induction m with
      | zero =>
        intro l f e l0 hf hj
        have kf : kl f 64 = 1 := by rw [(hf.2.1 _).1]; exact hk.1
        refine C31_20 ⟨fun _ => ⟨kf, ?_⟩, fun q => by omega⟩
        rw [if_neg (by omega), if_neg (by omega), if_neg (by omega), if_neg (by omega)] at hF
        refine hF _ ?_ ⟨by rw [nx_uI, hf.2.2.1.1]; exact Nat.le_refl _, by rw [sl_uI, hf.2.2.1.2]; exact Nat.le_refl _⟩ ⟨by rw [fI_uI, if_pos ⟨rfl, rfl⟩]; rfl, fun i i0 i8 => ?_⟩ ⟨?_, fun g g0 g6 => ?_⟩
        · exact (hf.cx CX.rf (fun a ha => by simp at ha; subst ha; exact ⟨by decide, by simp⟩)).uI (fun _ => by rw [kf]; decide)
        · rw [aR_uI, hj i i0 (by omega)]
          show 2 = A ((if 72 = 72 ∧ 0 ≤ i ∧ i < 8 then 0 else s.2 72 i) - 1)
          rw [if_pos ⟨rfl, i0, i8⟩, h2]
        · rw [fI_uI, if_neg (by omega), (hf.1 _ _).1]; exact hn.1
        · rw [aI_uI, hf.2.2.2.1 _ (by simp)]; exact hn.2 g g0 g6
      | succ m ih =>
        intro l f e l0 hf hj
        have kf : ∀ a, kl f a = kl c a ∧ le f a = le c a := fun a => hf.2.1 a
        have rf : fR f 64 10 = 197 := by rw [(hf.1 _ _).2]; exact hk.2.1
        refine C31_20 ⟨fun q => by omega, fun _ => ?_⟩
        rw [rf, (kf _).1, (kf _).1, (kf _).2, hk.1, hk.2.2.1, hk.2.2.2.1]
        refine ⟨rfl, rfl, by omega, by omega, ih (l + 1) _ (by omega) (by omega) (hf.uB (by simp)) (fun j j0 j1 => ?_)⟩
        rw [aR_uB]
        by_cases w : j = l
        · rw [if_pos ⟨rfl, w⟩]
        · rw [if_neg (fun q => w q.2)]; exact hj j j0 (by omega)
    exact key 8 0 c (by decide) (by decide) SMR.rf (fun j j0 j1 => by omega)
  · rw [if_neg (by omega), if_pos q2, if_neg (by omega), if_pos q2] at hF
    exact hF _ ((refC_x hX).up (by decide) (by decide)) RMk.rf (hb.x hX (refC_x hX) (by decide) (by decide)) (hn.ref (by decide))
  · rw [if_pos q, if_pos q] at hF
    exact hF c CX.rf RMk.rf hb hn
theorem keep_c {i b : Int} {F : Int → SC → Prop} (h1 : R1 A c s t) (hS : SHT s t) (hb : BXc A c s) (hB : BX s) (hn : FNc c s) (hr : ∀ f, 0 ≤ f → f < 6 → 0 ≤ s.2 1 f ∧ s.2 1 f ≤ 600) (hF : ∀ e, CX fnY [197, 198] c e → RMk 0 0 c e → BXc A e (kepU s t i b) → FNc e (kepU s t i b) → F (kepA s t i b) e) : ck iv L h0 (d + 1) 32 [vr 64, vi i, vi b] c (qi F) := by
  obtain ⟨d1, d2, d3, d4, d5⟩ := h1.1.1.dk
  have hX := h1.1.1
  have hk := hX.bx
  refine C32 ⟨d1, by rw [d3]; exact d2, ?_⟩
  rw [d3]
  unfold kepA kepU at hF
  refine find_c h1 hS (fun hm => ⟨fun _ => ⟨d1, inbox_c hX hb (fun q => ⟨fun _ => ?_, fun w => absurd w (by decide)⟩) (fun q => ⟨fun w => absurd rfl w, fun _ => ⟨d1, ref_c hX (by decide) hn hr ?_⟩⟩)⟩, fun w => absurd w (h1.1.2.1.ne (hS.m b hm)).1⟩) (fun hm => ⟨fun w => absurd rfl w, fun _ => ?_⟩)
  · have hbb := hS.m b hm
    have h71 := hB.1
    rw [hk.2.1, hk.2.2.1, hk.2.2.2.1, if_pos hm, if_pos q, if_pos hm, if_pos q] at *
    have hka := (h1.1.2.1.2 b hbb.1 hbb.2).1.1
    refine ⟨d1, rfl, by omega, Or.inr hka, hF _ (CX.rf.uB (fun _ => by unfold rk; rw [if_pos (by decide)]; decide)) RMk.rf ⟨hb.1, fun j j0 j8 => ?_⟩ hn⟩
    rw [aR_uB]
    show _ = A ((if 72 = 72 ∧ j = i then b + 1 else s.2 72 j) - 1)
    by_cases w : j = i
    · rw [if_pos ⟨rfl, w⟩, if_pos ⟨rfl, w⟩]; congr 1; omega
    · rw [if_neg (fun w' => w w'.2), if_neg (fun w' => w w'.2)]; exact hb.2 j j0 j8
  · rw [if_pos hm, if_neg q, if_pos hm, if_neg q] at hF
    exact hF _ ((refC_x hX).up (fun _ q => q) (by decide)) RMk.rf (hb.x hX (refC_x hX) (by decide) (by decide)) (hn.ref (by decide))
  · rw [if_neg hm, if_neg hm] at hF
    exact hF c CX.rf RMk.rf hb hn
theorem lak_c {i : Int} (hN : ND A c s) (hb : BXc A c s) (hB : BX s) (hi : 0 ≤ i ∧ i < s.1 71) : (s.2 72 i = 0 → aR c 197 i = 2) ∧ (s.2 72 i ≠ 0 → aR c 197 i ≠ 2 ∧ kl c (aR c 197 i) = 5 ∧ fI c (aR c 197 i) 1 = s.2 9 (s.2 72 i - 1) ∧ fI c (aR c 197 i) 4 = s.2 10 (s.2 72 i - 1)) := by
  have h71 := hB.1
  rw [hb.2 i hi.1 (by omega)]
  refine ⟨fun q => hN.1 _ (by omega), fun q => ?_⟩
  have := hB.2 i hi.1 (by omega)
  have hr : 0 ≤ s.2 72 i - 1 ∧ s.2 72 i - 1 < s.1 8 := by omega
  obtain ⟨⟨n1, n2, n3, n4, n5, n6, n7, n8⟩, n9, n10⟩ := hN.2 _ hr.1 hr.2
  exact ⟨(hN.ne hr).1, n1, n5, n8⟩
theorem boxed_c {i k : Int} {F : Int → SC → Prop} (hX : FIX c) (hN : ND A c s) (hb : BXc A c s) (hB : BX s) (hn : FNc c s) (hr : ∀ f, 0 ≤ f → f < 6 → 0 ≤ s.2 1 f ∧ s.2 1 f ≤ 600) (hF : ∀ e, CX [(1, 13), (1, 14)] [198] c e → RMk 0 0 c e → BXc A e (bxdU s i k) → FNc e (bxdU s i k) → F (bxdA s i k) e) : ck iv L h0 (d + 1) 33 [vr 64, vi i, vi k] c (qi F) := by
  have hk := hX.bx
  have rf : ∀ f, (f = 1 ∨ f = 2 ∨ f = 3) → (k = 1 ∨ k = 3) → lakA s i k = f → ck iv L h0 d 47 [vr 64, vi f] c (qi F) := fun f hf hk' hl => by
    refine ref_c hX (by omega) hn hr ?_
    have e1 : bxdA s i k = -3 := by unfold bxdA; rw [if_pos hk', if_neg (by omega)]
    have e2 : bxdU s i k = mtU s f := by unfold bxdU; rw [if_pos hk', if_neg (by omega), hl]
    rw [e1, e2] at hF
    exact hF _ ((refC_x hX).up (by decide) (by decide)) RMk.rf (hb.x hX (refC_x hX) (by decide) (by decide)) (hn.ref (by omega))
  have body : (k = 1 ∨ k = 3) → (0 ≤ i ∧ i < s.1 71) → (kl c 64 = 1) ∧ (kl c (fR c 64 10) = 103) ∧ (0 ≤ i ∧ i < le c (fR c 64 10)) ∧ ((aR c (fR c 64 10) i ≠ 2 → (kl c (aR c (fR c 64 10) i) = 5) ∧ ((fI c (aR c (fR c 64 10) i) 1 = k → F 1 (uI c 64 13 (fI c (aR c (fR c 64 10) i) 4))) ∧ (fI c (aR c (fR c 64 10) i) 1 ≠ k → ck iv L h0 d 47 [vr 64, vi 3] c (qi F)))) ∧ (aR c (fR c 64 10) i = 2 → ck iv L h0 d 47 [vr 64, vi 1] c (qi F))) := fun hk' hi => by
    obtain ⟨l1, l2⟩ := lak_c hN hb hB hi
    have h71 := hB.1
    rw [hk.2.1, hk.2.2.1, hk.2.2.2.1]
    by_cases q : s.2 72 i = 0
    · refine ⟨hk.1, rfl, by omega, fun w => absurd (l1 q) w, fun _ => rf 1 (Or.inl rfl) hk' ?_⟩
      unfold lakA; rw [if_pos hi, if_pos q]
    · obtain ⟨m1, m2, m3, m4⟩ := l2 q
      rw [m3, m4]
      refine ⟨hk.1, rfl, by omega, fun _ => ⟨m2, fun w => ?_, fun w => rf 3 (Or.inr (Or.inr rfl)) hk' ?_⟩, fun w => absurd w m1⟩
      · have e0 : lakA s i k = 0 := by unfold lakA; rw [if_pos hi, if_neg q, if_pos w]
        have e1 : bxdA s i k = 1 := by unfold bxdA; rw [if_pos hk', if_pos e0]
        have e2 : bxdU s i k = us s 73 (s.2 10 (s.2 72 i - 1)) := by unfold bxdU; rw [if_pos hk', if_pos e0]
        rw [e1, e2] at hF
        have hx : CX [(1, 13), (1, 14)] [198] c (uI c 64 13 (s.2 10 (s.2 72 i - 1))) := CX.rf.uI (fun _ => by rw [hk.1]; decide)
        have hx' : CX [(1, 13)] [] c (uI c 64 13 (s.2 10 (s.2 72 i - 1))) := CX.rf.uI (fun _ => by rw [hk.1]; decide)
        exact hF _ hx RMk.rf (hb.x hX hx' (by decide) (by decide)) (hn.x hX hx' (by decide) (by decide))
      · unfold lakA; rw [if_pos hi, if_neg q, if_neg w]
  have out : (k = 1 ∨ k = 3) → ¬ (0 ≤ i ∧ i < s.1 71) → ck iv L h0 d 47 [vr 64, vi 2] c (qi F) := fun hk' hi => rf 2 (Or.inr (Or.inl rfl)) hk' (by unfold lakA; rw [if_neg hi])
  refine C33 ⟨fun q => ⟨hk.1, inbox_c hX hb (fun hi => ⟨fun _ => body (Or.inl q) hi, fun w => absurd w (by decide)⟩) (fun hi => ⟨fun w => absurd rfl w, fun _ => ⟨hk.1, out (Or.inl q) hi⟩⟩)⟩, fun q => ⟨fun q2 => ⟨hk.1, inbox_c hX hb (fun hi => ⟨fun _ => body (Or.inr q2) hi, fun w => absurd w (by decide)⟩) (fun hi => ⟨fun w => absurd rfl w, fun _ => ⟨hk.1, out (Or.inr q2) hi⟩⟩)⟩, fun q2 => ?_⟩⟩
  have e1 : bxdA s i k = -1 := by unfold bxdA; rw [if_neg (by omega)]
  have e2 : bxdU s i k = s := by unfold bxdU; rw [if_neg (by omega)]
  rw [e1, e2] at hF
  exact hF c CX.rf RMk.rf hb hn
end
