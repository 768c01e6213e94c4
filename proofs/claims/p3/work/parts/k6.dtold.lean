/-! What the desk tells of its last working (C26 to C30). -/
/-- a hole written, of births so far -/
def HLB (s : SM) (X : Term) : Prop := ∃ (b : Nat) (E : Term), X = .div (.index b) E ∧ isE 26 E ∧ VB s E ∧ (b : Int) < s.1 8
theorem outT_hb {s : SM} {so : Int → Int} : ∀ (n : Nat) (V : Term), SizeOf.sizeOf V < n → isV V = true → VB s V → ∀ (o : List Int × List Term), (∀ X, X ∈ o.2 → HLB s X) → ∀ X, X ∈ (outT so V o).2 → HLB s X := by
  intro n
  induction n with
  | zero => intro V hn; omega
  | succ n ih =>
    intro V hn hv hV o ho
    cases V with
    | int z => exact gd_h (x := pN z.toInt o) ho ho
    | arg z => exact gd_h (x := pW (if z = 1 then 19 else 20) o) ho ho
    | index x => exact gd_h (x := pB (97 + x) (pB 33 o)) ho ho
    | sub x E =>
      cases x with
      | index x => exact gd_h (x := pN x (pB 100 o)) ho ho
      | _ => cases hv
    | add A B =>
      refine gd_h (x := pB 93 (outT so B (pB 32 (outT so A (pB 91 o))))) ho ?_
      exact ih B (by simp at hn; omega) hV.2.1 hV.2.2 _ (ih A (by simp at hn; omega) hV.1.1 hV.1.2 _ ho)
    | div x E =>
      cases x with
      | index x =>
        refine gd_h (x := pN x (pB 63 (o.1, o.2 ++ [.div (.index x) E]))) ho (fun X hX => ?_)
        rcases List.mem_append.mp hX with hX | hX
        · exact ho X hX
        · rw [List.mem_singleton.mp hX]
          exact ⟨x, E, rfl, hV.2.1, hV.2.2, hV.1⟩
      | _ => cases hv
    | length A =>
      refine gd_h (x := pB 125 (outT so A (pB 123 o))) ho ?_
      exact ih A (by simp at hn; omega) hV.1 hV.2 _ ho
    | rem x q =>
      cases x with
      | index x =>
        cases q with
        | elem A q =>
          cases q with
          | elem B E =>
            obtain ⟨⟨b1, a1, a2⟩, hB, -⟩ := hV
            have r1 : ∀ X, X ∈ (outT so A (pB 32 (pW (wrd (so x)) (pB 40 o)))).2 → HLB s X := ih A (by simp at hn; omega) a1 a2 _ ho
            have z : ∀ (o' : List Int × List Term), (∀ X, X ∈ o'.2 → HLB s X) → ∀ X, X ∈ (outZ (so x) x o').2 → HLB s X := fun o' h' => by
              unfold outZ
              split <;> exact h'
            refine gd_h (x := outZ (so x) x (if isV B = true then outT so B (pB 32 (outT so A (pB 32 (pW (wrd (so x)) (pB 40 o))))) else outT so A (pB 32 (pW (wrd (so x)) (pB 40 o))))) ho (z _ ?_)
            split
            · next hvB =>
              rcases hB with hB | hB
              · exact ih B (by simp at hn; omega) hB.1 hB.2 _ r1
              · rw [hB] at hvB; cases hvB
            · exact r1
          | _ => cases hv
        | _ => cases hv
      | _ => cases hv
    | _ => cases hv
theorem wrt_hb {s : SM} {V : Term} (hV : isV V = true ∧ VB s V) : ∀ X, X ∈ (wrt s V).2 → HLB s X := outT_hb (SizeOf.sizeOf V + 1) V (Nat.lt_succ_self _) hV.1 hV.2 _ (fun X hX => by cases hX)
section
variable {iv : List (Int × Int)} {L : Nat} {h0 : MH} {A A' : Int → Nat} {P Q : Nat → Prop} {c c0 e f : SC} {σ s s' : SM} {t : Term} {d p q a g y r w : Nat} {n b z x i k : Int} {ys : List (Nat × Nat)} {rs : List Nat} {R : RS} {X Y E V : Term} {l : List (Int × Nat)} {o : List Int × List Term}
theorem byte_c {F : Int → SC → Prop} (hw : WRC c w) (ho : WO A P c w o) (hF : F (atB o.1 k) c) : ck iv L h0 d 246 [vr w, vi k] c (qi F) := by
  obtain ⟨⟨k1, k2, k3, k4, k5⟩, ⟨k6, k7, k8, k9⟩, k10, k11, k12, k13⟩ := hw
  obtain ⟨⟨⟨o1, o2⟩, o3⟩, -⟩ := ho
  unfold atB at hF
  refine C246 ⟨fun q => ⟨fun q2 => ?_, fun q2 => ⟨k1, fun q3 => ?_, fun q3 => ?_⟩⟩, fun q => ⟨k1, ?_⟩⟩
  · rw [if_neg q, if_neg (by omega)] at hF; exact hF
  · rw [if_neg q, if_neg (by omega)] at hF; exact hF
  · rw [if_neg q, if_pos (by omega)] at hF
    rw [k3]
    refine ⟨k7, by omega, ?_⟩
    have := o3 k.toNat _ (getD_at (x := 0) q2 (by omega))
    rw [show ((k.toNat : Nat) : Int) = k by omega] at this
    rw [this]
    exact hF
  · rw [if_pos q] at hF
    rw [o1]
    exact hF
theorem dsteps_c {F : Int → SC → Prop} (hX : FIX c) (hF : F (fI c 176 3) c) : ck iv L h0 d 26 [vr 64] c (qi F) := by
  obtain ⟨w1, w2, w3, w4, w5, w6, w7, w8, w9⟩ := hX.wt
  refine C26 ⟨w1, ?_⟩
  rw [w3]
  exact ⟨w7, hF⟩
theorem dwhere_c {F : Int → SC → Prop} (hX : FIX c) (hF : F (fI c 176 5) c) : ck iv L h0 d 27 [vr 64] c (qi F) := by
  obtain ⟨w1, w2, w3, w4, w5, w6, w7, w8, w9⟩ := hX.wt
  refine C27 ⟨w1, ?_⟩
  rw [w3]
  exact ⟨w7, hF⟩
theorem dvalue_c {F : Int → SC → Prop} (hX : FIX c) (H0 : fR c 176 6 = 2 → F (-9) c) (H1 : fR c 176 6 ≠ 2 → WO A P c 183 o ∧ F (atB o.1 k) c) : ck iv L h0 (d + 1) 28 [vr 64, vi k] c (qi F) := by
  obtain ⟨w1, w2, w3, w4, w5, w6, w7, w8, w9⟩ := hX.wt
  refine C28 ⟨w1, ?_⟩
  rw [w3, w4]
  exact ⟨w7, fun q => ⟨w8, byte_c hX.wrc.1 (H1 q).1 (H1 q).2⟩, fun q => H0 q⟩
/-- the hole of that number -/
theorem lefth_c {F : Nat → SC → Prop} (hX : FIX c) (H0 : fR c 176 6 = 2 → F 2 c) (ho : fR c 176 6 ≠ 2 → WO A P c 183 o) (H1 : fR c 176 6 ≠ 2 → ¬ (0 ≤ k ∧ k < o.2.length) → F 2 c) (H2 : fR c 176 6 ≠ 2 → (0 ≤ k ∧ k < o.2.length) → ∀ a, DV A c P (o.2.getD k.toNat .null) a [] → isW (o.2.getD k.toNat .null) = true → F a c) : ck iv L h0 d 54 [vr 64, vi k] c (qa F) := by
  obtain ⟨w1, w2, w3, w4, w5, w6, w7, w8, w9⟩ := hX.wt
  refine C54 ⟨w1, ?_⟩
  rw [w3, w4]
  refine ⟨w7, fun q => H0 q, fun q => ⟨fun q2 => H1 q (by omega), fun q2 => ⟨w8, fun q3 => ?_, fun q3 => ?_⟩⟩⟩
  · obtain ⟨⟨k1, k2, k3, k4, k5⟩, ⟨k6, k7, k8, k9⟩, k10, k11, k12, k13⟩ := hX.wrc.1
    obtain ⟨⟨⟨o1, o2⟩, o3⟩, ⟨o4, o5⟩, o6⟩ := ho q
    rw [k2]
    have := o6 k.toNat _ (getD_at (x := .null) q2 (by omega))
    rw [show ((k.toNat : Nat) : Int) = k by omega] at this
    exact ⟨k6, by omega, H2 q ⟨q2, by omega⟩ _ this.1 this.2⟩
  · have := (ho q).2.1.1
    exact H1 q (by omega)
theorem dleft_c {F : Int → SC → Prop} (hX : FIX c) (hN : NDW A c s) (hV : fR c 176 6 ≠ 2 → (isV V = true ∧ VB s V) ∧ WO A P c 183 (wrt s V)) (H0 : fR c 176 6 = 2 → F (-9) c) (H1 : fR c 176 6 ≠ 2 → F (lefA s V k) c) : ck iv L h0 (d + 1) 29 [vr 64, vi k] c (qi F) := by
  obtain ⟨w1, w2, w3, w4, w5, w6, w7, w8, w9⟩ := hX.wt
  refine C29 ⟨w1, lefth_c (P := P) (A := A) (o := wrt s V) hX (fun q => ⟨fun w => absurd rfl w, fun _ => H0 q⟩) (fun q => (hV q).2) (fun q q2 => ⟨fun w => absurd rfl w, fun _ => ?_⟩) (fun q q2 a hd hw => ?_)⟩
  · have := H1 q
    unfold lefA at this
    rw [if_neg q2] at this
    exact this
  · have := H1 q
    unfold lefA at this
    rw [if_pos q2] at this
    obtain ⟨bb, E, e1, e2, e3, e4⟩ := wrt_hb (hV q).1 _ (List.mem_of_getElem? (getD_at (x := .null) q2.1 q2.2))
    rw [e1] at hd this
    obtain ⟨⟨⟨h1, h1'⟩, h2⟩, h3, h4, l, h5, h6⟩ := hd
    obtain ⟨n1, n2, n3⟩ := hN.1 bb (by omega) e4
    rw [h3]
    refine ⟨fun _ => ⟨h1', n1, ?_⟩, fun w => by have := h1'; rw [w, hX.2.2.2] at this; omega⟩
    rw [n2]
    exact this
theorem dseen_c {F : Int → SC → Prop} (h1 : R1 A c s t) (hT : SHT s t) (hp : PLP c p q) (hV : fR c 176 6 ≠ 2 → (isV V = true ∧ VB s V) ∧ WO A (YNG c p) c 183 (wrt s V)) (H0 : ¬ (0 ≤ x ∧ x ≤ 25) → F (-1) c) (H1 : fR c 176 6 = 2 → (0 ≤ x ∧ x ≤ 25) → F (-9) c) (H2 : fR c 176 6 ≠ 2 → (0 ≤ x ∧ x ≤ 25) → ∀ e, WX 188 c e → F (senA s V k x i) e) : ck iv L h0 (d + 6) 30 [vr 64, vi k, vi x, vi i] c (qi F) := by
  have hX := h1.1.1
  obtain ⟨w1, w2, w3, w4, w5, w6, w7, w8, w9⟩ := hX.wt
  refine C30 (C40 ⟨fun w => ⟨fun z => absurd rfl z, fun _ => H0 (by omega)⟩, fun w => ⟨fun w' => ⟨fun z => absurd rfl z, fun _ => H0 (by omega)⟩, fun w' => ⟨fun _ => ⟨w1, ?_⟩, fun z => by cases z⟩⟩⟩)
  have hx : 0 ≤ x ∧ x ≤ 25 := by omega
  refine lefth_c (P := YNG c p) (A := A) (o := wrt s V) hX (fun q => ⟨fun w => absurd rfl w, fun _ => H1 q hx⟩) (fun q => (hV q).2) (fun q q2 => ⟨fun w => absurd rfl w, fun _ => ?_⟩) (fun q q2 a hd hw => ?_)
  · have := H2 q hx c WX.rf
    unfold senA at this
    rw [if_neg (fun z => q2 ⟨z.1, z.2.1⟩)] at this
    exact this
  · obtain ⟨bb, E, e1, e2, e3, e4⟩ := wrt_hb (hV q).1 _ (List.mem_of_getElem? (getD_at (x := .null) q2.1 q2.2))
    have es : seeV s V k x = lkE E x := by unfold seeV; rw [e1]
    rw [e1] at hd
    obtain ⟨⟨⟨h1', h1''⟩, h2⟩, h3, h4, l, h5, h6⟩ := hd
    have a2 : a ≠ 2 := yng2 h1'
    refine ⟨fun _ => ⟨w1, h1'', by rw [w3]; exact w7, ?_⟩, fun w => absurd w a2⟩
    rw [w3]
    obtain ⟨m, rfl⟩ : ∃ m : Nat, x = m := ⟨x.toNat, by omega⟩
    have lk := DV_lk 26 E e2 h6 m (Nat.zero_le _) (by omega)
    refine seen_find_c (fun a ha => yng2 ha) h5 ⟨fun z => ⟨w1, by rw [w5]; exact w9, ?_⟩, fun z => ?_⟩
    · have hnn : lkE E m ≠ .null := fun w => z (lk.1.mpr w)
      obtain ⟨v1, v2⟩ := VB_lk E m e3 hnn
      rw [w5]
      refine written_c (fun a ha => yng2 ha) hX.wrc.2 (NDW_of h1 hT) ⟨v1, v2⟩ (lk.2 hnn) (fun f hx' ho => ?_)
      have xf := hx'.cx w9 (by decide)
      have hXf := (h1.x hT xf (by decide) (by decide) (by decide) (by decide)).1.1
      obtain ⟨y1, y2, y3, y4, y5, y6, y7, y8, y9⟩ := hXf.wt
      refine ⟨y1, by rw [y5]; exact y9, ?_⟩
      rw [y5]
      refine byte_c hXf.wrc.2 ho ?_
      have := H2 q hx f hx'
      unfold senA at this
      rw [es, if_pos ⟨q2.1, q2.2, hnn⟩] at this
      exact this
    · have := H2 q hx c WX.rf
      unfold senA at this
      rw [es, if_neg (fun w => w.2.2 (lk.1.mp z))] at this
      exact this
end
