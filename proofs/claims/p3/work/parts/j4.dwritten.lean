/-! Writing by the desk: one value's own part, all of it (C252, C247). -/
section
variable {iv : List (Int × Int)} {L : Nat} {h0 : MH} {A A' : Int → Nat} {P Q : Nat → Prop} {c c0 e f : SC} {s s' : SM} {t : Term} {d p a w n : Nat} {x z : Int} {V X Y E : Term} {o : List Int × List Term} {K : List (Int × Nat × Term)} {l : List (Int × Nat)}
theorem one_c {F : SC → Prop} (hP : ∀ a, P a → a ≠ 2) (hw : WRC c w) (hN : NDW A c s) (ho : WO A P c w o) (hk : WK A P c w s K) (hl : o.1.length < 400 → K.length + 10 < 2005) (hV : isV V = true ∧ VB s V) (hv : DV A c P V a []) (hF : ∀ e o' K', WX w c e → WO A P e w o' → WK A P e w s K' → OST (s.2 9) V o K o' K' → F e) : ck iv L h0 (d + 3) 252 [vr w, vr a] c (qv F) := by
  have hol := ho.1.1.2
  obtain ⟨⟨v1, v2⟩, v3, v4⟩ := DV_kind hV.1 hv
  have gN : ∀ {e : SC} {n : Nat}, WX w c e → (n : Int) < s.1 8 → kl e (A n) = 5 ∧ fI e (A n) 0 = n := fun hx hn => ⟨((hN.wx hx hw.1.1).1 _ (by omega) hn).1, ((hN.wx hx hw.1.1).1 _ (by omega) hn).2.1⟩
  have tv : ∀ {e : SC}, WX w c e → DV A e P V a [] := fun hx => DV.wx hx hw.1.1 hv
  have gdn : ∀ z, o.1.length < 400 → gd o z = z := fun z h => if_neg (by omega)
  have ro := hN.2
  refine C252 ⟨v2, ?_⟩
  rw [v3]
  cases V with
  | int z =>
    have h1 : fI c a 1 = z.toInt := hv.2.1
    rw [h1]
    refine ⟨fun _ => ⟨hw.1.1, ?_⟩, fun q => (by cases q), fun q => (by cases q), fun q => (by cases q), fun q => (by cases q), fun q => (by cases q), fun q => (by cases q), fun q => by revert q; show (0 : Int) < 0 ∨ 6 < (0 : Int) → _; omega⟩
    refine num_c hw ho hk ⟨z.le_toInt, by have := z.toInt_lt; omega⟩ (fun e x1 o1 s1 => hF e _ _ x1 o1 s1 (OST_of hol (fun h => pN_full h _) (fun h => ⟨?_, pN_lt _ _ h, fun _ => by have := pN_lt z.toInt o h; omega⟩)))
    show _ = runK _ K (gd o (pN z.toInt o))
    rw [gdn _ h]
  | arg n =>
    have h1 : fI c a 1 = (n : Int) := hv.2.1
    rw [h1]
    have hn : n ≤ 1 := hV.2
    obtain ⟨w9, w10, -⟩ := words_eq
    refine ⟨fun q => (by cases q), fun _ => ⟨fun q => ⟨hw.1.1, ?_⟩, fun q => ⟨hw.1.1, ?_⟩⟩, fun q => (by cases q), fun q => (by cases q), fun q => (by cases q), fun q => (by cases q), fun q => (by cases q), fun q => by revert q; show (1 : Int) < 0 ∨ 6 < (1 : Int) → _; omega⟩
    · have ln : ∀ o : List Int × List Term, o.1.length < 400 → o.1.length < (pW 10 o).1.length := fun o h => by
        have e : pW 10 o = (((strT 10).foldl (fun o c => outB o c.toInt) o.1), o.2) := rfl
        rw [e]
        have hs : 1 ≤ (strT 10).length := (words_in 1 (by decide)).2
        cases hh : strT 10 with
        | nil => rw [hh] at hs; simp at hs
        | cons b m =>
          show o.1.length < (m.foldl (fun o c => outB o c.toInt) (outB o.1 b.toInt)).length
          have := fold_ge (fun c : Int32 => c.toInt) m (outB o.1 b.toInt)
          have := (outB_len o.1 b.toInt).2.1 h
          omega
      refine text_c (by decide) hw ho hk (fun e x1 o1 s1 => hF e _ _ x1 o1 s1 (OST_of hol (fun h => pW_full h _) (fun h => ⟨?_, ln _ h, fun _ => by have := ln o h; omega⟩)))
      show _ = runK _ K (gd o (pW (if n = 1 then 19 else 20) o))
      rw [gdn _ h, if_neg (by omega), pW_eq w10]
    · have ln : ∀ o : List Int × List Term, o.1.length < 400 → o.1.length < (pW 9 o).1.length := fun o h => by
        have e : pW 9 o = (((strT 9).foldl (fun o c => outB o c.toInt) o.1), o.2) := rfl
        rw [e]
        have hs : 1 ≤ (strT 9).length := (words_in 0 (by decide)).2
        cases hh : strT 9 with
        | nil => rw [hh] at hs; simp at hs
        | cons b m =>
          show o.1.length < (m.foldl (fun o c => outB o c.toInt) (outB o.1 b.toInt)).length
          have := fold_ge (fun c : Int32 => c.toInt) m (outB o.1 b.toInt)
          have := (outB_len o.1 b.toInt).2.1 h
          omega
      refine text_c (by decide) hw ho hk (fun e x1 o1 s1 => hF e _ _ x1 o1 s1 (OST_of hol (fun h => pW_full h _) (fun h => ⟨?_, ln _ h, fun _ => by have := ln o h; omega⟩)))
      show _ = runK _ K (gd o (pW (if n = 1 then 19 else 20) o))
      rw [gdn _ h, if_pos (by omega), pW_eq w9]
  | sub b E =>
    cases b with
    | index n =>
      refine ⟨fun q => (by cases q), fun q => (by cases q), fun _ => ⟨hw.1.1, ?_⟩, fun q => (by cases q), fun q => (by cases q), fun q => (by cases q), fun q => (by cases q), fun q => by revert q; show (2 : Int) < 0 ∨ 6 < (2 : Int) → _; omega⟩
      refine add_c hw ho hk (by decide) (fun e x1 o1 s1 => ?_)
      have t1 := tv x1
      have g := gN x1 hV.2.1
      have e2 : fR e a 2 = A n := t1.2.1
      rw [e2, g.2]
      refine ⟨t1.1.1.2, g.1, (hw.x x1).1.1, num_c (hw.x x1) o1 s1 (by have := hV.2.1; omega) (fun e2 x2 o2 s2 => hF e2 _ _ (x1.tr x2) o2 s2 (OST_of hol (fun h => by rw [pB_full h, pN_full h]) (fun h => ⟨?_, ?_, fun _ => ?_⟩)))⟩
      · show _ = runK _ K (gd o (pN n (pB 100 o)))
        rw [gdn _ h]
      · have := (pB_len 100 o).2 h; have := pN_len n (pB 100 o); omega
      · have := (pB_len 100 o).2 h; have := pN_len n (pB 100 o); omega
    | _ => cases hV.1
  | add X Y =>
    obtain ⟨⟨hX1, hX2⟩, hY1, hY2⟩ := hV.2
    have cx : ∀ {e : SC}, WX w c e → (kl e a = 10) ∧ (fR e a 3 ≠ 2 ∧ DV A e P X (fR e a 3) []) ∧ fR e a 4 ≠ 2 ∧ DV A e P Y (fR e a 4) [] := fun hx => by
      obtain ⟨⟨⟨h1, h1'⟩, h2⟩, h3, h4, h5⟩ := tv hx
      exact ⟨h1', ⟨hP _ (DV_kind hX1 h4).1.1, h4⟩, hP _ (DV_kind hY1 h5).1.1, h5⟩
    refine ⟨fun q => (by cases q), fun q => (by cases q), fun q => (by cases q), fun _ => ⟨hw.1.1, ?_⟩, fun q => (by cases q), fun q => (by cases q), fun q => (by cases q), fun q => by revert q; show (3 : Int) < 0 ∨ 6 < (3 : Int) → _; omega⟩
    refine add_c hw ho hk (by decide) (fun e1 x1 o1 s1 => ⟨(hw.x x1).1.1, later_n (hw.x x1) o1 s1 (by decide) (fun e2 K2 x2 o2 s2 k2 => ?_)⟩)
    have x2 := x1.tr x2
    obtain ⟨c1, c2, c3⟩ := cx x2
    refine ⟨c1, (hw.x x2).1.1, later_v (hw.x x2) o2 s2 ⟨hY1, hY2⟩ c3 (fun e3 K3 x3 o3 s3 k3 => ?_)⟩
    have x3 := x2.tr x3
    refine ⟨(hw.x x3).1.1, later_n (hw.x x3) o3 s3 (by decide) (fun e4 K4 x4 o4 s4 k4 => ?_)⟩
    have x4 := x3.tr x4
    obtain ⟨c1, c2, c3⟩ := cx x4
    refine ⟨c1, (hw.x x4).1.1, later_v (hw.x x4) o4 s4 ⟨hX1, hX2⟩ c2 (fun e5 K5 x5 o5 s5 k5 => hF e5 _ _ (x4.tr x5) o5 s5 (OST_of hol (fun h => pB_full h _) (fun h => ?_)))⟩
    have hlk := hl h
    have k2 := k2 (by omega)
    subst k2
    have k3 := k3 (by simp; omega)
    subst k3
    have k4 := k4 (by simp; omega)
    subst k4
    have k5 := k5 (by simp; omega)
    subst k5
    have := (pB_len 91 o).2 h
    refine ⟨?_, by omega, fun _ => by simp; omega⟩
    show _ = runK _ K (gd o (pB 93 (outT (s.2 9) Y (pB 32 (outT (s.2 9) X (pB 91 o))))))
    rw [gdn _ h]
    simp only [runK_c, apK_c (show (0 : Int) ≤ 32 by decide), apK_c (show (0 : Int) ≤ 93 by decide), apK_v hX1, apK_v hY1]
  | div b E =>
    cases b with
    | index n =>
      have g0 : ∀ {e : SC}, WX w c e → kl e a = 10 ∧ kl e (fR e a 2) = 5 ∧ fI e (fR e a 2) 0 = n := fun {e} hx => by
        have t1 := tv hx
        have e2 : fR e a 2 = A n := t1.2.1
        rw [e2]
        exact ⟨t1.1.1.2, (gN hx hV.2.1).1, (gN hx hV.2.1).2⟩
      have hr : -2147483648 ≤ (n : Int) ∧ (n : Int) ≤ 2147483647 := by have := hV.2.1; omega
      refine ⟨fun q => (by cases q), fun q => (by cases q), fun q => (by cases q), fun q => (by cases q), fun _ => ⟨hw.1.1, fun q => ?_, fun q => ?_⟩, fun q => (by cases q), fun q => (by cases q), fun q => by revert q; show (4 : Int) < 0 ∨ 6 < (4 : Int) → _; omega⟩
      · refine add_c hw ho hk (by decide) (fun e1 x1 o1 s1 => ?_)
        obtain ⟨g1, g2, g3⟩ := g0 x1
        rw [g3]
        have h4 : o.1.length = 400 := by have := ho.1.1.1; omega
        refine ⟨g1, g2, (hw.x x1).1.1, num_c (hw.x x1) o1 s1 hr (fun e2 x2 o2 s2 => hF e2 _ _ (x1.tr x2) o2 s2 (OST_of hol (fun h => by rw [pB_full h, pN_full h]) (fun h => by omega)))⟩
      · have h4 : o.1.length < 400 := by have := ho.1.1.1; omega
        refine hole_w hw ho hk h4 ⟨rfl, hV.1, hv⟩ (fun e1 x1 o1 s1 => ?_) q
        obtain ⟨g1, g2, g3⟩ := g0 x1
        rw [g3]
        refine ⟨g1, g2, (hw.x x1).1.1, num_c (hw.x x1) o1 s1 hr (fun e2 x2 o2 s2 => hF e2 _ _ (x1.tr x2) o2 s2 (OST_of hol (fun h => by omega) (fun h => ⟨?_, ?_, fun _ => ?_⟩)))⟩
        · show _ = runK _ K (gd o (pN n (pB 63 (o.1, o.2 ++ [.div (.index n) E]))))
          rw [gdn _ h]
        · have h1 : (pB 63 (o.1, o.2 ++ [.div (.index n) E])).1.length = o.1.length + 1 := (outB_len o.1 63).2.1 h
          have := pN_len n (pB 63 (o.1, o.2 ++ [.div (.index n) E])); omega
        · have h1 : (pB 63 (o.1, o.2 ++ [.div (.index n) E])).1.length = o.1.length + 1 := (outB_len o.1 63).2.1 h
          have := pN_len n (pB 63 (o.1, o.2 ++ [.div (.index n) E])); omega
    | _ => cases hV.1
  | index n =>
    have hn : n < 26 := hV.2
    refine ⟨fun q => (by cases q), fun q => (by cases q), fun q => (by cases q), fun q => (by cases q), fun q => (by cases q), fun _ => ⟨hw.1.1, ?_⟩, fun q => (by cases q), fun q => by revert q; show (5 : Int) < 0 ∨ 6 < (5 : Int) → _; omega⟩
    refine add_c hw ho hk (by decide) (fun e1 x1 o1 s1 => ?_)
    have t1 := tv x1
    have e1' : fI e1 a 1 = (n : Int) := t1.2.1
    rw [e1']
    refine ⟨t1.1.1.2, by omega, (hw.x x1).1.1, add_c (hw.x x1) o1 s1 (by omega) (fun e2 x2 o2 s2 => hF e2 _ _ (x1.tr x2) o2 s2 (OST_of hol (fun h => by rw [pB_full h, pB_full h]) (fun h => ⟨?_, ?_, fun _ => ?_⟩)))⟩
    · show _ = runK _ K (gd o (pB (97 + n) (pB 33 o)))
      rw [gdn _ h]
    · have := (pB_len 33 o).2 h; have := (pB_len (97 + n) (pB 33 o)).1; omega
    · have := (pB_len 33 o).2 h; have := (pB_len (97 + n) (pB 33 o)).1; omega
  | length X =>
    obtain ⟨hX1, hX2⟩ := hV.2
    refine ⟨fun q => (by cases q), fun q => (by cases q), fun q => (by cases q), fun q => (by cases q), fun q => (by cases q), fun q => (by cases q), fun _ => ⟨hw.1.1, ?_⟩, fun q => by revert q; show (6 : Int) < 0 ∨ 6 < (6 : Int) → _; omega⟩
    refine add_c hw ho hk (by decide) (fun e1 x1 o1 s1 => ⟨(hw.x x1).1.1, later_n (hw.x x1) o1 s1 (by decide) (fun e2 K2 x2 o2 s2 k2 => ?_)⟩)
    have x2 := x1.tr x2
    obtain ⟨⟨⟨h1, h1'⟩, h2⟩, h3, h4⟩ := tv x2
    refine ⟨h1', (hw.x x2).1.1, later_v (hw.x x2) o2 s2 ⟨hX1, hX2⟩ ⟨hP _ (DV_kind hX1 h4).1.1, h4⟩ (fun e3 K3 x3 o3 s3 k3 => hF e3 _ _ (x2.tr x3) o3 s3 (OST_of hol (fun h => pB_full h _) (fun h => ?_)))⟩
    have hlk := hl h
    have k2 := k2 (by omega)
    subst k2
    have k3 := k3 (by simp; omega)
    subst k3
    have := (pB_len 123 o).2 h
    refine ⟨?_, by omega, fun _ => by simp; omega⟩
    show _ = runK _ K (gd o (pB 125 (outT (s.2 9) X (pB 123 o))))
    rw [gdn _ h]
    simp only [runK_c, apK_c (show (0 : Int) ≤ 125 by decide), apK_v hX1]
  | rem b z =>
    cases b with
    | index n =>
      cases z with
      | elem X z =>
        cases z with
        | elem Y E =>
          refine ⟨fun q => (by cases q), fun q => (by cases q), fun q => (by cases q), fun q => (by cases q), fun q => (by cases q), fun q => (by cases q), fun q => (by cases q), fun _ => ⟨hw.1.1, act_w hP hw hN ho hk hl hV.2 hv (fun e o' K' h1 h2 h3 h4 => hF e o' K' h1 h2 h3 h4)⟩⟩
        | _ => cases hV.1
      | _ => cases hV.1
    | _ => cases hV.1
  | _ => cases hV.1
end
