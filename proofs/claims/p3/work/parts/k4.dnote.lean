/-! The desk: behind a working, what is noted and written (C53). -/
def nqY : List (Nat × Nat) := [(1, 15), (5, 11), (12, 1), (12, 3), (12, 6)]
def nqR : List Nat := [184, 185, 186, 187]
/-- a value held, with what is written of it -/
def HLD (A : Int → Nat) (c : SC) (s : SM) (p : Nat) (V : Term) (r : Nat) : Prop := (r ≠ 2 ∧ kl c r = 10) ∧ (isV V = true ∧ VB s V) ∧ DV A c (YNG c p) V r []
section
variable {iv : List (Int × Int)} {L : Nat} {h0 : MH} {A A' : Int → Nat} {P Q : Nat → Prop} {c c0 e f : SC} {σ s s' : SM} {t : Term} {d p q a g x y r w : Nat} {n b z : Int} {ys : List (Nat × Nat)} {rs : List Nat} {R : RS} {X Y E V : Term} {l : List (Int × Nat)} {o : List Int × List Term}
theorem FIX.wt (h : FIX c) : kl c 64 = 1 ∧ fR c 64 1 = 70 ∧ fR c 64 3 = 176 ∧ fR c 64 4 = 183 ∧ fR c 64 5 = 188 ∧ kl c 70 = 8 ∧ kl c 176 = 11 ∧ kl c 183 = 12 ∧ kl c 188 = 12 := by
  simp only [h.1]; exact ⟨trivial, trivial, trivial, trivial, trivial, trivial, trivial, trivial, trivial⟩
theorem NDW_of (h : R1 A c s t) (hT : SHT s t) : NDW A c s := ⟨fun b b0 b1 => by
  obtain ⟨⟨m1, m2, m3, m4, m5, -⟩, -⟩ := h.1.2.1.2 b b0 b1
  exact ⟨m1, m4, m5⟩, by have := hT.2.2.2.2.1; omega⟩
theorem WO_mono (hPQ : ∀ u, P u → Q u) (h : WO A P c w o) : WO A Q c w o := ⟨h.1, h.2.1, fun k V hV => ⟨DV_up (P := P) (Q := Q) (fun a ha => ⟨hPQ a ha, fun _ => ⟨rfl, fun _ _ => ⟨rfl, rfl⟩⟩⟩) _ V _ [] (Nat.lt_succ_self _) (h.2.2 k V hV).1, (h.2.2 k V hV).2⟩⟩
theorem HLD.kp (hX : FIX c) (hx : CX ys rs c e) (h : NPY ys rs) (hp : p = 177 ∨ p = 180) (hh : HLD A c s p V r) : HLD A e s p V r := by
  obtain ⟨⟨h1, h2⟩, h3, h4⟩ := hh
  have hk := (DV_kind h3.1 h4).1
  have hd := DV_up (sty_cx hX hx h hp) _ V r [] (Nat.lt_succ_self _) h4
  exact ⟨⟨h1, (DV_kind h3.1 hd).1.2⟩, h3, hd⟩
theorem yng2 {u : Nat} (h : YNG c p u) : u ≠ 2 := by have := h.1.1.1; omega
theorem note_c {F : Int → SC → Prop} (h1 : R1 A c s t) (hT : SHT s t) (hp : PLP c p q) (h6 : fR c 176 6 = r) (hh : r ≠ 2 → HLD A c s p V r) (hF : ∀ e, CX nqY nqR c e → RMP c e → R1 A e s t → PLP e p q → (r ≠ 2 → HLD A e s p V r ∧ WO A (YNG e p) e 183 (wrt s V)) → fI e 64 15 = 0 → (∀ x, x ∈ fl t → fI e (A x) 11 = (jdg s t).2.2 x) → (∀ a, (∀ x, x ∈ fl t → a ≠ A x) → fI e a 11 = fI c a 11) → F z e) : ck iv L h0 (d + 6) 53 [vr 64, vi z] c (qi F) := by
  have hX := h1.1.1
  have h353 := hX.2.2.1
  obtain ⟨w1, w2, w3, w4, w5, w6, w7, w8, w9⟩ := hX.wt
  have hp' : p = 177 ∨ p = 180 := by have := hp.1; omega
  have x0 : CX [(1, 15)] [] c (uI c 64 15 0) := CX.rf.uI (fun _ => by rw [w1]; decide)
  have r0 := h1.x hT x0 (by decide) (by decide) (by decide) (fun _ _ q => by cases q)
  refine C53 ⟨w1, by rw [w2]; exact w6, ?_⟩
  rw [w2]
  refine thens_c r0 hT (fun e r1 x1 m1 th ot => ?_)
  have n0 : NPY [(1, 15), (5, 11)] [] := ⟨fun y => ⟨by simp, by simp⟩, ⟨by decide, by decide⟩, by decide, by decide, by decide, by decide⟩
  have xe : CX [(1, 15), (5, 11)] [] c e := (x0.up (by decide) (fun _ q => q)).tr (x1.up (by decide) (fun _ q => q))
  have hXe := r1.1.1
  obtain ⟨v1, v2, v3, v4, v5, v6, v7, v8, v9⟩ := hXe.wt
  have hk : ky 176 (kl c 176) = 11 := by rw [w7]; rfl
  have e6 : fR e 176 6 = r := (xe.r (by omega) (by rw [hk]; decide)).trans h6
  have e15 : fI e 64 15 = 0 := by
    rw [ot 64 15 (Or.inl (by decide)), fI_uI, if_pos ⟨rfl, rfl⟩]
  have me : RMP c e := RMP_cx hX xe n0 ⟨m1.1, m1.2⟩
  have oth : ∀ a, (∀ x, x ∈ fl t → a ≠ A x) → fI e a 11 = fI c a 11 := fun a ha => by rw [ot a 11 (Or.inr ha), fI_uI, if_neg (by omega)]
  rw [v3, v4, e6]
  refine ⟨v1, v7, fun z => ?_, fun z => ⟨v8, ?_⟩⟩
  · exact hF e (xe.up (by decide) (fun _ q => by cases q)) me r1 (PLP_cx hX xe n0 ⟨by decide, by decide⟩ hp) (fun w => absurd z w) e15 th oth
  · have he := HLD.kp hX xe n0 hp' (hh z)
    refine written_c (fun a ha => yng2 ha) (hXe.wrc.1) (NDW_of r1 hT) he.2.1 he.2.2 (fun f hx ho => ?_)
    have xf := hx.cx v8 (by decide)
    have nw := npy_w (w := 183) (Or.inl rfl)
    have r2 := r1.x hT xf (by decide) (by decide) (by decide) (by decide)
    refine hF f ((xe.up (by decide) (fun _ q => by cases q)).tr (xf.up (by decide) (fun a ha => ha))) (me.tr (hx.rm (Or.inl rfl))) r2 (PLP_cx hXe xf nw ⟨by decide, by decide⟩ (PLP_cx hX xe n0 ⟨by decide, by decide⟩ hp)) (fun _ => ⟨HLD.kp hXe xf nw hp' he, WO_mono (yng_cx hXe xf nw hp') ho⟩) ?_ (fun x hx' => ?_) (fun a ha => by rw [hx.2.2.1 a 11 (fun q => by omega)]; exact oth a ha)
    · rw [hx.2.2.1 64 15 (fun q => by omega)]; exact e15
    · have hb := hT.lt hx'
      obtain ⟨-, -, n10⟩ := r1.1.2.1.2 x hb.1 hb.2.1
      rw [hx.2.2.1 (A x) 11 (fun q => by omega)]
      exact th x hx'
end
