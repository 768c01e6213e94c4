/-! offers() by the desk: safe, and all stays. -/
section
variable {iv : List (Int × Int)} {L : Nat} {h0 : MH} {A A' : Int → Nat} {c e : SC} {s s' w : SM} {t : Term} {d : Nat} {ys : List (Nat × Nat)} {rs : List Nat}
theorem R1_tr (h : R1 A c s t) (hS : SHT s t) (hK : KIs s) (hx : CX trY trR c e) (hf : ∀ x, x ∈ fl t → fI e (A x) 8 = fI c (A x) 8 ∧ fI e (A x) 9 = fI c (A x) 9 ∧ fI e (A x) 10 = fI c (A x) 10) (h4 : fI e 65 4 = fI c 65 4) (h5 : fI e 65 5 = fI c 65 5) (hk : ∀ k, k < fI c 65 5 → aI e 66 k = aI c 66 k ∧ aI e 67 k = aI c 67 k ∧ aI e 68 k = aI c 68 k ∧ aI e 69 k = aI c 69 k) : R1 A e s t := by
  obtain ⟨⟨hX, hN, hH, hL⟩, ⟨hc, h8⟩, hI, hJ1, hJ2, hJ3⟩ := h
  have h3 := hX.2.2.1
  have hkd := hX.dk
  have hn := hK.1
  have hm : 40 ≤ fI c 65 5 := hJ1.2.1
  have hke : kext (mx A c s) (mx A e s) := ⟨h4.symm, by show fI c 65 5 ≤ fI e 65 5; rw [h5]; exact Int.le_refl _, fun k hk' => hk k hk'⟩
  have hvk : ∀ k, vkc c k → vkc e k ∧ ktc e k = ktc c k := fun k hk' => ⟨by unfold vkc at hk' ⊢; rw [h4, h5]; exact hk', kext_kt (s := mx A c s) (t := mx A e s) hke hJ1 hk'⟩
  refine ⟨⟨hX.x hx (by decide) (by decide), hN.x hx (by decide) (by decide) (by decide) (by decide) (by decide), hH.x hN hS.m hX hx (by decide) (by decide) (by decide) (by decide), hL.x hN hS.m hX hx (by decide) (by decide) (by decide)⟩, ⟨?_, ?_⟩, ⟨h4.trans hI.1, fun k k0 kn => ?_⟩, ?_, by rw [h5]; exact hJ2, fun x hx' => ?_⟩
  · rw [hx.r (a := 70) (by omega) (by rw [hkd.2.1]; decide)]; exact hc
  · rw [hx.i (a := 70) (by omega) (by rw [hkd.2.1]; decide)]; exact h8
  · obtain ⟨e1, e2, e3, e4⟩ := hk k (by omega)
    rw [e1, e2, e3, e4]
    exact hI.2 k k0 kn
  · unfold KJc
    rw [h4, h5]
    exact KJ_lt hJ1 hk
  · obtain ⟨⟨g1, g2⟩, g3, g4⟩ := hJ3 x hx'
    obtain ⟨f8, f9, f10⟩ := hf x hx'
    rw [f8, f9, f10]
    refine ⟨⟨(hvk _ g1).1, (hvk _ g1).2.trans g2⟩, ?_, g4⟩
    unfold aKc at g3 ⊢
    cases hA : (jdg s t).2.1 x with
    | none => rw [hA] at g3; exact g3
    | some T => rw [hA] at g3; exact ⟨(hvk _ g3.1).1, (hvk _ g3.1).2.trans g3.2⟩
theorem tra_ne : ∀ m : Nat, m < 16 → ∀ i : Nat, i < 3 → ∀ n : Nat, n < 16 → (i : Int) < pO m → 1 ≤ n → tra m + 2 + 2 * i ≠ tra n := by
  have h : (List.range 16).all (fun m => (List.range 3).all (fun i => (List.range 16).all (fun n => decide (¬ ((i : Int) < pO m ∧ 1 ≤ n ∧ tra m + 2 + 2 * i = tra n))))) = true := by decide +kernel
  intro m m16 i i3 n n16 hi n1 e
  have h1 := List.all_eq_true.mp (List.all_eq_true.mp (List.all_eq_true.mp h m (List.mem_range.mpr m16)) i (List.mem_range.mpr i3)) n (List.mem_range.mpr n16)
  exact (of_decide_eq_true h1) ⟨hi, n1, e⟩
/-- trials stay -/
theorem TRc.up (h : TRc c) (hX : FIX c) (hx : CX ys rs c e) (hy : (25, 1) ∉ ys ∧ (25, 2) ∉ ys ∧ (25, 3) ∉ ys) (hr : ∀ a, a ∈ rs → a < 194 ∨ (194 < a ∧ a < 235) ∨ 307 ≤ a) (hp : ∀ m i : Nat, 1 ≤ m → m < 16 → (i : Int) < pO m → fR e (tra m + 2 + 2 * i) 5 = fR c (tra m + 2 + 2 * i) 5 ∧ fI e (tra m + 2 + 2 * i) 6 = fI c (tra m + 2 + 2 * i) 6) : TRc e := by
  intro n n1 n16
  obtain ⟨⟨r1, r2, r3, r4, r5, r6, r7⟩, rp⟩ := h n n1 n16
  obtain ⟨z1, z2⟩ := tra_in n n16
  have z1 := z1 (by omega)
  have hpo := pO_in n
  have h3 := hX.2.2.1
  have row : ∀ a, 235 ≤ a → a < 307 → aR e a = aR c a := fun a a0 a1 => hx.ar (by omega) (by unfold rk; rw [if_pos (by omega)]; intro w; have := hr a w; omega)
  have row4 : aR e 194 = aR c 194 := hx.ar (by omega) (by unfold rk; rw [if_pos (by omega)]; intro w; have := hr 194 w; omega)
  have key : ∀ a, 235 ≤ a → a < 307 → ky a (kl c a) = 25 := fun a a0 a1 => by unfold ky; rw [if_pos ⟨a0, a1⟩]
  have f1 : ∀ a, 235 ≤ a → a < 307 → fI e a 1 = fI c a 1 ∧ fI e a 2 = fI c a 2 ∧ fR e a 3 = fR c a 3 ∧ kl e a = kl c a ∧ le e a = le c a := fun a a0 a1 => ⟨hx.i (by omega) (by rw [key a a0 a1]; exact hy.1), hx.i (by omega) (by rw [key a a0 a1]; exact hy.2.1), hx.r (by omega) (by rw [key a a0 a1]; exact hy.2.2), hx.k (by omega), hx.l (by omega)⟩
  obtain ⟨q1, q2, q3, q4, q5⟩ := f1 (tra n) z1 (by omega)
  obtain ⟨-, -, -, q6, q7⟩ := f1 (tra n + 1) (by omega) (by omega)
  refine ⟨⟨by rw [row4]; exact r1, by rw [q4]; exact r2, by rw [q6]; exact r3, by rw [q7]; exact r4, by rw [q1]; exact r5, by rw [q3]; exact r6, fun w => by rw [q2]; exact r7 w⟩, fun i hi => ?_⟩
  obtain ⟨s1, s2, s3, s4, s5, s6, s7, s8⟩ := rp i hi
  obtain ⟨g1, g2, g3, g4, g5⟩ := f1 (tra n + 2 + 2 * i) (by omega) (by omega)
  obtain ⟨-, -, -, g6, g7⟩ := f1 (tra n + 2 + 2 * i + 1) (by omega) (by omega)
  obtain ⟨p5, p6⟩ := hp n i n1 n16 hi
  exact ⟨by rw [row _ (by omega) (by omega)]; exact s1, by rw [g4]; exact s2, by rw [g6]; exact s3, by rw [g7]; exact s4, by rw [g1]; exact s5, by rw [g3]; exact s6, by rw [p5]; exact s7, by rw [p6]; exact s8⟩
/-- what stays while trials are judged -/
def OFI (A : Int → Nat) (c0 c : SC) (s : SM) (t : Term) : Prop := R1 A c s t ∧ TRc c ∧ CX trY trR c0 c ∧ RMk 0 0 c0 c
theorem trial_c {c0 : SC} {n : Nat} {F : Int → SC → Prop} (h : OFI A c0 c s t) (hT : AFT s t) (hK : KIs s) (hn : 1 ≤ n ∧ n < 16) (hD : 82 ≤ d) (hF : ∀ r e, (r = 0 ∨ r = 1) → OFI A c0 e s t → F r e) : ck iv L h0 d 164 [vr 175, vr (tra n), vr (A (s.1 16))] c (qi F) := by
  obtain ⟨d, rfl⟩ : ∃ k, d = k + 1 := ⟨d - 1, by omega⟩
  obtain ⟨h1, hTR, hx0, hr0⟩ := h
  have hS := hT.1
  have hX := h1.1.1
  have hk : kl c 175 = 3 ∧ kl c 65 = 4 ∧ fR c 175 0 = 65 ∧ fR c 65 0 = 66 ∧ kl c 66 = 100 ∧ le c 66 = 1440 := by simp only [hX.1]; exact ⟨trivial, trivial, trivial, trivial, trivial, trivial⟩
  obtain ⟨⟨r1, r2, r3, r4, r5, r6, r7⟩, rp⟩ := hTR n hn.1 hn.2
  obtain ⟨z1, z2⟩ := tra_in n hn.2
  have z1 := z1 (by omega)
  have hpo := pO_in n
  have hcb := hS.m _ hT.2.2
  have h3 := hX.2.2.1
  obtain ⟨⟨n1, n2, n3, n4, n5, n6, n7, n8⟩, n9, n10⟩ := h1.1.2.1.2 _ hcb.1 hcb.2
  have key : ky (tra n) (kl c (tra n)) = 25 := by unfold ky; rw [if_pos ⟨z1, by omega⟩]
  generalize hc1 : uI (uR c (tra n) 5 (fR c (A (s.1 16)) 5)) (tra n) 6 (fI c (A (s.1 16)) 6) = c1
  have hx1 : CX trY trR c c1 := by
    rw [← hc1]
    exact (CX.rf.uR (fun _ => by rw [key]; decide)).uI (fun _ => by rw [kl_uR, key]; decide)
  have fo : ∀ a y, a ≠ tra n → fI c1 a y = fI c a y ∧ fR c1 a y = fR c a y := fun a y ha => by
    rw [← hc1]
    exact ⟨by rw [fI_uI, if_neg (fun w => ha w.2), fI_uR], by rw [fR_uI, fR_uR, if_neg (fun w => ha w.2)]⟩
  have hne : ∀ x, x ∈ fl t → A x ≠ tra n := fun x hx w => by
    have := (h1.1.2.1.2 x (hS.m x hx).1 (hS.m x hx).2).2.2
    omega
  have ai1 : ∀ a, aI c1 a = aI c a := fun a => by rw [← hc1, aI_uI, aI_uR]
  have h11 : R1 A c1 s t := R1_tr h1 hS hK hx1 (fun x hx => ⟨(fo _ 8 (hne x hx)).1, (fo _ 9 (hne x hx)).1, (fo _ 10 (hne x hx)).1⟩) (fo 65 4 (by omega)).1 (fo 65 5 (by omega)).1 (fun k _ => by rw [ai1, ai1, ai1, ai1]; exact ⟨rfl, rfl, rfl, rfl⟩)
  have hTR1 : TRc c1 := hTR.up hX hx1 (by decide) (by decide) (fun m i m1 m16 hi => by
    have hpm := pO_in m
    have := tra_ne m m16 i (by omega) n hn.2 hi hn.1
    exact ⟨(fo _ 5 this).2, (fo _ 6 this).1⟩)
  have hcur := hne _ hT.2.2
  have e5 : fR c1 (tra n) 5 = fR c1 (A (s.1 16)) 5 := by rw [(fo _ 5 hcur).2, ← hc1, fR_uI, fR_uR, if_pos ⟨rfl, rfl⟩]
  have e6 : fI c1 (tra n) 6 = fI c1 (A (s.1 16)) 6 := by rw [(fo _ 6 hcur).1, ← hc1, fI_uI, if_pos ⟨rfl, rfl⟩]
  have e8 : fI c1 (A (s.1 16)) 8 = fI c (A (s.1 16)) 8 := (fo _ 8 hcur).1
  refine C164 ⟨hk.1, by rw [hk.2.2.1]; exact hk.2.1, n1, r2, ?_⟩
  rw [hc1, hk.2.2.1, ← e8]
  refine trj_ok h11 hT hK hTR1 hn e5 e6 (by omega) (fun r e he => ?_)
  obtain ⟨⟨he1, he2⟩, he3, he4, he5, he6⟩ := he
  have hX1 := h11.1.1
  have hXe : FIX e := hX1.x he1 (by decide) (by decide)
  have hke : kl e 175 = 3 ∧ kl e 65 = 4 ∧ fR e 175 0 = 65 ∧ fR e 65 0 = 66 ∧ kl e 66 = 100 ∧ le e 66 = 1440 := by simp only [hXe.1]; exact ⟨trivial, trivial, trivial, trivial, trivial, trivial⟩
  have hn1 : nxt c ≤ nxt c1 := hx1.n
  have kle : ∀ a, a < nxt c → kl e a = kl c a := fun a ha => (he1.k (by omega)).trans (hx1.k ha)
  have hx2 : CX trY trR c1 (uI e 65 5 (fI c 65 5)) := (he1.up (by decide) (by decide)).uI (fun _ => by rw [hke.2.1]; decide)
  have f65 : fI c1 65 5 = fI c 65 5 := (fo 65 5 (by omega)).1
  have hR : R1 A (uI e 65 5 (fI c 65 5)) s t := R1_tr h11 hS hK hx2 (fun x hx => by
    have hA := (h11.1.2.1.2 x (hS.m x hx).1 (hS.m x hx).2).2.2
    rw [fI_uI, if_neg (by omega), fI_uI, if_neg (by omega), fI_uI, if_neg (by omega)]
    exact he4 x hx) (by rw [fI_uI, if_neg (by omega)]; exact he5) (by rw [fI_uI, if_pos ⟨rfl, rfl⟩, f65]) (fun k hk' => he6 k hk')
  have hTRe : TRc (uI e 65 5 (fI c 65 5)) := hTR1.up hX1 hx2 (by decide) (by decide) (fun m i m1 m16 hi => by
    obtain ⟨y1, y2⟩ := tra_in m m16
    have y1 := y1 (by omega)
    have kk : ky (tra m + 2 + 2 * i) (kl c1 (tra m + 2 + 2 * i)) = 25 := by unfold ky; rw [if_pos (by omega)]
    rw [fR_uI, fI_uI, if_neg (by omega)]
    exact ⟨he1.r (by omega) (by rw [kk]; decide), he1.i (by omega) (by rw [kk]; decide)⟩)
  have hO : OFI A c0 (uI e 65 5 (fI c 65 5)) s t := ⟨hR, hTRe, hx0.tr (hx1.tr hx2), by
    have hr1 : RMk 0 0 c c1 := by rw [← hc1]; exact RMk.rf
    exact (hr0.tr hr1).tr he2⟩
  have hkcur : kl e (A (s.1 16)) = 5 := by rw [kle _ (by omega)]; exact n1
  have hktr : kl e (tra n) = 5 := by rw [kle _ (by omega)]; exact r2
  have fin : ∀ v : Int, (v = 0 ∨ v = 1) → F v (uI e 65 5 (fI c 65 5)) := fun v hv => hF v _ hv hO
  have fR5 : fR e (A (s.1 16)) 5 = A (s.2 12 (s.1 16)) := by
    have := (hR.1.2.2.1.1 _ hT.2.2).1
    rw [fR_uI] at this
    exact this
  rw [hke.2.2.1]
  refine ⟨hkcur, fun _ => ⟨hke.1, hke.2.1, hktr, fun _ => fin 0 (Or.inl rfl), fun _ => fin 1 (Or.inr rfl)⟩, fun q => ⟨fun _ => ⟨hke.1, hke.2.1, hktr, fun _ => fin 0 (Or.inl rfl), fun _ => fin 1 (Or.inr rfl)⟩, fun _ => ⟨?_, hke.1, ?_⟩⟩⟩
  · rw [fR5] at q ⊢
    have hu : 0 ≤ s.2 12 (s.1 16) ∧ s.2 12 (s.1 16) < s.1 8 := Classical.byContradiction fun w => q (h1.1.2.1.1 _ w)
    have hu2 := h1.1.2.1.2 _ hu.1 hu.2
    rw [kle _ (by omega)]
    exact hu2.1.1
  · have fin2 : ∀ v : Int, ((v = 0 → (kl e 175 = 3) ∧ (kl e (fR e 175 0) = 4) ∧ (kl e (tra n) = 5) ∧ ((fI e (tra n) 10 ≠ 0 → F 0 (uI e (fR e 175 0) 5 (fI c 65 5))) ∧ (fI e (tra n) 10 = 0 → F 1 (uI e (fR e 175 0) 5 (fI c 65 5))))) ∧ (v ≠ 0 → (kl e 175 = 3) ∧ (kl e (fR e 175 0) = 4) ∧ (kl e (tra n) = 5) ∧ ((fI e (tra n) 10 ≠ 0 → F 0 (uI e (fR e 175 0) 5 (fI c 65 5))) ∧ (fI e (tra n) 10 = 0 → F 0 (uI e (fR e 175 0) 5 (fI c 65 5)))))) := fun v => by
      rw [hke.2.2.1]
      exact ⟨fun _ => ⟨hke.1, hke.2.1, hktr, fun _ => fin 0 (Or.inl rfl), fun _ => fin 1 (Or.inr rfl)⟩, fun _ => ⟨hke.1, hke.2.1, hktr, fun _ => fin 0 (Or.inl rfl), fun _ => fin 0 (Or.inl rfl)⟩⟩
    refine C173 ⟨hke.1, by rw [hke.2.2.1]; exact hke.2.1, ?_⟩
    rw [hke.2.2.1, hke.2.2.2.1, hke.2.2.2.2.1, hke.2.2.2.2.2]
    rw [hke.2.2.1] at fin2
    exact ⟨rfl, he3, fun _ => ⟨fun _ => ⟨fun _ => fin2 0, fun _ => ⟨fun _ => fin2 3, fun _ => fin2 0⟩⟩, fun _ => ⟨fun _ => fin2 0, fun _ => ⟨fun _ => fin2 0, fun _ => ⟨fun _ => fin2 3, fun _ => fin2 0⟩⟩⟩⟩, fun _ => ⟨fun _ => fin2 0, fun _ => ⟨fun _ => fin2 2, fun _ => fin2 0⟩⟩⟩
end
