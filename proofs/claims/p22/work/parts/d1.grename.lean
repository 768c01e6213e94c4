section
/-! rename() by the desk. -/
section
variable {iv : List (Int × Int)} {L : Nat} {h0 : MH} {A A' : Int → Nat} {c e : SC} {s s' : SM} {t : Term} {d : Nat} {P : Int → Prop} {Q : Int → Int → Prop} {K : List Snap}
theorem bnd_two {so nu up pl : Int → Int} {q v : Int} : ∀ (n : Nat) (b x : Int), bnd so nu up pl n b x ≠ q → bnd so (fun y => if y = q then v else nu y) up pl n b x = bnd so nu up pl n b x ∨ bnd so (fun y => if y = q then v else nu y) up pl n b x = q := by
  intro n
  induction n with
  | zero => intro b x _; exact Or.inl rfl
  | succ n ih =>
    intro b x h
    unfold bnd at h ⊢
    by_cases e : up b = -9
    · rw [if_pos e, if_pos e]; exact Or.inl rfl
    · rw [if_neg e] at h
      rw [if_neg e, if_neg e]
      by_cases eq : up b = q
      · simp only [if_pos eq]
        by_cases c1 : (so (up b) = 8 ∨ so (up b) = 10 ∧ pl b = 1) ∧ nu (up b) = x
        · rw [if_pos c1] at h
          exact absurd eq h
        · rw [if_neg c1] at h
          by_cases c2 : (so (up b) = 8 ∨ so (up b) = 10 ∧ pl b = 1) ∧ v = x
          · rw [if_pos c2]; exact Or.inr eq
          · rw [if_neg c2, if_neg c1]
            exact ih _ x h
      · simp only [if_neg eq]
        by_cases c1 : (so (up b) = 8 ∨ so (up b) = 10 ∧ pl b = 1) ∧ nu (up b) = x
        · rw [if_pos c1, if_pos c1]; exact Or.inl rfl
        · rw [if_neg c1] at h
          rw [if_neg c1, if_neg c1]
          exact ih _ x h
theorem Ainj (hN : ND A c s) (hS : SHT s t) {b b' : Int} (hb : b = -9 ∨ b ∈ fl t) (hb' : b' = -9 ∨ b' ∈ fl t) : A b = A b' ↔ b = b' := by
  constructor
  · intro e
    rcases hb' with q | q
    · subst q
      rw [A9 hN] at e
      rcases hb with w | w
      · exact w
      · exact absurd e (hN.ne (hS.m _ w)).1
    · exact hN.inj (hS.m _ q) e
  · intro e; rw [e]
theorem A64 (hN : ND A c s) (hS : SHT s t) {b : Int} (hb : b = -9 ∨ b ∈ fl t) : A b = 2 ∨ 64 ≤ A b := by
  rcases hb with q | q
  · left; rw [q]; exact A9 hN
  · right; exact (hN.ne (hS.m _ q)).2
/-- the nodes one by one -/
theorem R1.ord (h1 : FIX c ∧ ND A c s ∧ HG A c s t ∧ LST A c t) (hS : SHT s t) {p m : List Int} {x : Int} (e : fl t = p ++ x :: m) : x ∈ fl t ∧ p.length < 60 ∧ (fl t).length = p.length + 1 + m.length ∧ aR c 71 (p.length : Int) = A x ∧ fI c (A x) 7 = p.length ∧ kl c (A x) = 5 ∧ fI c (A x) 1 = s.2 9 x ∧ fI c (A x) 4 = s.2 10 x := by
  have hxm : x ∈ fl t := by rw [e]; simp
  have hl := hS.2.2.2.1
  have hle : (fl t).length = p.length + 1 + m.length := by rw [e]; simp; omega
  obtain ⟨g1, g2⟩ := h1.2.2.2.2 p.length x (by rw [e]; simp)
  obtain ⟨⟨n1, n2, n3, n4, n5, n6, n7, n8⟩, n9, n10⟩ := h1.2.1.2 x (hS.m _ hxm).1 (hS.m _ hxm).2
  exact ⟨hxm, by omega, hle, g1, g2, n1, n5, n8⟩
theorem FIX.or (h : FIX c) : kl c 70 = 8 ∧ fR c 70 0 = 71 ∧ kl c 71 = 103 ∧ le c 71 = 60 := by
  simp only [h.1]
  exact ⟨trivial, trivial, trivial, trivial⟩
theorem bds_in (hS : SHT s t) {nu : Int → Int} {y x : Int} (hy : y ∈ fl t) : bnd (s.2 9) nu (s.2 12) (s.2 13) 70 y x = -9 ∨ bnd (s.2 9) nu (s.2 12) (s.2 13) 70 y x ∈ fl t := (bnd_mem hS.w 70 y x hy).imp id (fun q => q.1)
theorem rnb_eq (hS : SHT s t) {v y : Int} (hy : y ∈ fl t) (e3 : s.2 9 y = 3) : rnb s v y = decide (bdR s v y (if isB s y then v else s.2 10 y) ≠ bds s y (s.2 10 y)) := by
  unfold rnb
  rw [decide_eq_true e3, Bool.true_and]
  have hB : isB s y = decide (bds s y (s.2 10 y) = s.1 16) := by unfold isB; rw [decide_eq_true e3, Bool.true_and]
  by_cases hb : bds s y (s.2 10 y) = s.1 16
  · have h1 : isB s y = true := by rw [hB]; exact decide_eq_true hb
    rw [h1, hb]
    by_cases q : bdR s v y (if true = true then v else s.2 10 y) = s.1 16
    · rw [decide_eq_true q, decide_eq_false (fun w => w q)]; rfl
    · rw [decide_eq_false q, decide_eq_true q]; rfl
  · have h1 : isB s y = false := by rw [hB]; exact decide_eq_false hb
    rw [h1]
    have two : bdR s v y (s.2 10 y) = bds s y (s.2 10 y) ∨ bdR s v y (s.2 10 y) = s.1 16 := bnd_two 70 y (s.2 10 y) hb
    show (decide (bdR s v y (s.2 10 y) = s.1 16) != false) = decide (bdR s v y (s.2 10 y) ≠ bds s y (s.2 10 y))
    by_cases q : bdR s v y (s.2 10 y) = s.1 16
    · have hne : bdR s v y (s.2 10 y) ≠ bds s y (s.2 10 y) := fun w => hb (by rw [← w]; exact q)
      rw [decide_eq_true q, decide_eq_true hne]; rfl
    · have hne : ¬ (bdR s v y (s.2 10 y) ≠ bds s y (s.2 10 y)) := fun w => w (two.resolve_right q)
      rw [decide_eq_false q, decide_eq_false hne]; rfl
theorem catches_ok {v : Int} {F : Int → SC → Prop} (h1 : R1 A c s t) (hT : AFT s t) (hF : F (if (fl t).any (rnb s v) = true then 1 else 0) c) : ck iv L h0 (d + 1) 214 [vr 70, vr (A (s.1 16)), vi v] c (qi F) := by
  have hS := hT.1
  obtain ⟨k1, k2, k3, k4⟩ := h1.1.1.or
  have hJ := js_of h1.1.1 h1.1.2.1 h1.1.2.2.1 hS
  have hDP : ∀ x, x ∈ fl t → DP (s.2 12) 70 x := fun x hx => DP_up 61 70 _ (by decide) (DP_tree hS x hx)
  have hcl : s.1 16 = -9 ∨ s.1 16 ∈ fl t := Or.inr hT.2.2
  have key : ∀ (m p : List Int), fl t = p ++ m → F (if m.any (rnb s v) = true then 1 else 0) c → wk iv L h0 (d + 1) 214 2 [lr 70, lr (A (s.1 16)), li v, li p.length] [] c (qi F) := by
    intro m
    induction m with
    | nil =>
      intro p hp hF
      refine C214_2 ⟨k1, fun _ => hF, fun q => ?_⟩
      have := h1.1.2.2.2.1
      rw [hp] at this
      simp at this
      omega
    | cons x m ih =>
      intro p hp hF
      obtain ⟨o1, o2, o3, o4, o5, o6, o7, o8⟩ := R1.ord h1.1 hS hp
      have hsz := h1.1.2.2.2.1
      have nx : rnb s v x = false → wk iv L h0 (d + 1) 214 2 [lr 70, lr (A (s.1 16)), li v, li ((p.length : Int) + 1)] [] c (qi F) := fun hn => by
        have := ih (p ++ [x]) (by rw [hp]; simp) (by rw [List.any_cons, hn, Bool.false_or] at hF; exact hF)
        rw [List.length_append] at this
        simp only [List.length_cons, List.length_nil] at this
        push_cast at this
        exact this
      have st : rnb s v x = true → F 1 c := fun hn => by
        rw [List.any_cons, hn, Bool.true_or, if_pos rfl] at hF
        exact hF
      refine C214_2 ⟨k1, fun q => by omega, fun _ => ?_⟩
      rw [k2, k3, k4, o4, o6, o7, o8]
      refine ⟨rfl, by omega, rfl, fun q3 => ⟨by omega, nx (by unfold rnb; rw [decide_eq_false q3, Bool.false_and])⟩, fun e3 => ?_⟩
      have hr := rnb_eq hS (v := v) o1 e3
      have hb0 := bds_in (nu := s.2 10) (x := s.2 10 x) hS o1
      refine nb0_ok hJ o1 (hDP x o1) ⟨A64 h1.1.2.1 hS hb0, A64 h1.1.2.1 hS hcl, fun q => ⟨o6, ?_⟩, fun q => ?_⟩
      · have hnb : ¬ bds s x (s.2 10 x) = s.1 16 := fun w => q ((Ainj h1.1.2.1 hS hb0 hcl).mpr w)
        have hB : isB s x = false := by unfold isB; rw [decide_eq_false hnb, Bool.and_false]
        rw [o8]
        refine nb_ok (nu := nuR s v) (q := s.1 16) (z := v) hJ hcl (fun y _ => rfl) o1 (hDP x o1) ?_
        have hb1 := bds_in (nu := nuR s v) (x := s.2 10 x) hS o1
        rw [hB] at hr
        refine ⟨A64 h1.1.2.1 hS hb1, fun w => ⟨by omega, nx ?_⟩, fun w => st ?_⟩
        · rw [hr]
          exact decide_eq_false (fun z => z ((Ainj h1.1.2.1 hS hb1 hb0).mp w))
        · rw [hr]
          exact decide_eq_true (fun z => w ((Ainj h1.1.2.1 hS hb1 hb0).mpr z))
      · have hnb : bds s x (s.2 10 x) = s.1 16 := (Ainj h1.1.2.1 hS hb0 hcl).mp q
        have hB : isB s x = true := by unfold isB; rw [decide_eq_true hnb, decide_eq_true e3]; rfl
        refine nb_ok (nu := nuR s v) (q := s.1 16) (z := v) hJ hcl (fun y _ => rfl) o1 (hDP x o1) ?_
        have hb1 := bds_in (nu := nuR s v) (x := v) hS o1
        rw [hB] at hr
        refine ⟨A64 h1.1.2.1 hS hb1, fun w => ⟨by omega, nx ?_⟩, fun w => st ?_⟩
        · rw [hr]
          exact decide_eq_false (fun z => z ((Ainj h1.1.2.1 hS hb1 hb0).mp w))
        · rw [hr]
          exact decide_eq_true (fun z => w ((Ainj h1.1.2.1 hS hb1 hb0).mpr z))
  refine C214 ?_
  exact key (fl t) [] rfl hF
/-- names renamed so far -/
def rnP (s : SM) (p : List Int) (v : Int) : SM := (s.1, fun f y => if f = 10 ∧ (y ∈ p ∧ isB s y = true) then v else s.2 f y)
theorem rnP_x {p : List Int} {v : Int} : SX [] [10] s (rnP s p v) := ⟨fun _ _ _ => rfl, fun f _ hf i _ => if_neg (fun q => hf (by rw [q.1]; simp))⟩
theorem rnP_o {p : List Int} {v : Int} {f : Nat} (hf : f ≠ 10) : (rnP s p v).2 f = s.2 f := by
  funext y
  exact if_neg (fun q => hf q.1)
theorem renameAll_ok {v : Int} {F : Int → SC → Prop} (h1 : FIX c ∧ LST A c t) (hT : AFT s t) (hO : OP A c s (fun x => x ∈ fl t) (fun b i => b ∈ fl t ∧ 0 ≤ i ∧ i < pO (s.2 9 b))) (hF : ∀ e, OP A e (rnU s t v) (fun x => x ∈ fl t) (fun b i => b ∈ fl t ∧ 0 ≤ i ∧ i < pO (s.2 9 b)) → CX [(5, 4)] [] c e → RMk 0 0 c e → F (cntp (isB s) (fl t)) e) : ck iv L h0 (d + 1) 215 [vr 70, vr (A (s.1 16)), vi v] c (qi F) := by
  have hS := hT.1
  have hcl : s.1 16 = -9 ∨ s.1 16 ∈ fl t := Or.inr hT.2.2
  have hcb := hS.m _ hT.2.2
  have key : ∀ (m p : List Int) (n : Int) (f : SC), fl t = p ++ m → 0 ≤ n → n ≤ p.length → n + cntp (isB s) m = cntp (isB s) (fl t) → OP A f (rnP s p v) (fun x => x ∈ fl t) (fun b i => b ∈ fl t ∧ 0 ≤ i ∧ i < pO (s.2 9 b)) → CX [(5, 4)] [] c f → RMk 0 0 c f → wk iv L h0 (d + 1) 215 5 [lr 70, lr (A (s.1 16)), li v, li n, li p.length] [] f (qi F) := by
    intro m
    induction m with
    | nil =>
      intro p n f hp hn0 hnl hn hOf hx hr
      obtain ⟨k1, k2, k3, k4⟩ := hOf.1.1.or
      have hL := h1.2.x hO.1.2.1 hS.m h1.1 hx (by decide) (by decide) (by decide)
      have hk := (hOf.1.2.1.2 _ hcb.1 hcb.2).1.1
      obtain ⟨o1, o2⟩ := op_v (v := v) hOf hcb
      refine C215_5 ⟨k1, fun _ => ⟨hk, ?_⟩, fun q => ?_⟩
      · rw [show n = cntp (isB s) (fl t) by rw [← hn]; show n = n + 0; omega]
        rw [List.append_nil] at hp
        have he : ua (rnP s p v) 10 (s.1 16) v = rnU s t v := by
          refine Prod.ext rfl (funext fun f => funext fun y => ?_)
          show (if f = 10 ∧ y = s.1 16 then v else if f = 10 ∧ (y ∈ p ∧ isB s y = true) then v else s.2 f y) = if f = 10 ∧ (y = s.1 16 ∨ (y ∈ fl t ∧ isB s y = true)) then v else s.2 f y
          rw [hp]
          by_cases a1 : f = 10 ∧ y = s.1 16
          · rw [if_pos a1, if_pos ⟨a1.1, Or.inl a1.2⟩]
          · rw [if_neg a1]
            by_cases a2 : f = 10 ∧ (y ∈ p ∧ isB s y = true)
            · rw [if_pos a2, if_pos ⟨a2.1, Or.inr a2.2⟩]
            · rw [if_neg a2, if_neg (fun q => q.2.elim (fun w => a1 ⟨q.1, w⟩) (fun w => a2 ⟨q.1, w⟩))]
        rw [he] at o1
        exact hF _ o1 (hx.tr o2) hr
      · have := hL.1
        rw [hp] at this
        simp at this
        omega
    | cons x m ih =>
      intro p n f hp hn0 hnl hn hOf hx hr
      have hSp : SHT (rnP s p v) t := hS.x rnP_x (by decide) (by decide)
      have hLf := h1.2.x hO.1.2.1 hS.m h1.1 hx (by decide) (by decide) (by decide)
      have hHf : HG A f (rnP s p v) t := op_HG hOf hSp (fun x hx => hx) (fun x i hx i0 i1 => ⟨hx, i0, by rw [rnP_o (by decide)] at i1; exact i1⟩)
      obtain ⟨k1, k2, k3, k4⟩ := hOf.1.1.or
      obtain ⟨o1, o2, o3, o4, o5, o6, o7, o8⟩ := R1.ord ⟨hOf.1.1, hOf.1.2.1, hHf, hLf⟩ hSp hp
      have hJ := js_of hOf.1.1 hOf.1.2.1 hHf hSp
      have hxp : x ∉ p := fun q => by
        have := hS.2.2.1
        rw [hp] at this
        exact (List.nodup_append.mp this).2.2 x q x (by simp) rfl
      have e10 : (rnP s p v).2 10 x = s.2 10 x := if_neg (fun q => hxp q.2.1)
      have e9 : (rnP s p v).2 9 x = s.2 9 x := by rw [rnP_o (by decide)]
      rw [e9] at o7
      rw [e10] at o8
      have hsz := hLf.1
      have nx : ∀ (n' : Int) (f' : SC), 0 ≤ n' → n' ≤ p.length + 1 → n' + cntp (isB s) m = cntp (isB s) (fl t) → OP A f' (rnP s (p ++ [x]) v) (fun x => x ∈ fl t) (fun b i => b ∈ fl t ∧ 0 ≤ i ∧ i < pO (s.2 9 b)) → CX [(5, 4)] [] c f' → RMk 0 0 c f' → wk iv L h0 (d + 1) 215 5 [lr 70, lr (A (s.1 16)), li v, li n', li ((p.length : Int) + 1)] [] f' (qi F) := fun n' f' a0 a1 a2 a3 a4 a5 => by
        have := ih (p ++ [x]) n' f' (by rw [hp]; simp) a0 (by simp; exact a1) a2 a3 a4 a5
        rw [List.length_append] at this
        simp only [List.length_cons, List.length_nil] at this
        push_cast at this
        exact this
      have same : isB s x = false → rnP s (p ++ [x]) v = rnP s p v := fun hb => by
        refine Prod.ext rfl (funext fun f => funext fun y => ?_)
        show (if f = 10 ∧ (y ∈ p ++ [x] ∧ isB s y = true) then v else s.2 f y) = if f = 10 ∧ (y ∈ p ∧ isB s y = true) then v else s.2 f y
        by_cases a2 : f = 10 ∧ (y ∈ p ∧ isB s y = true)
        · rw [if_pos a2, if_pos ⟨a2.1, List.mem_append_left _ a2.2.1, a2.2.2⟩]
        · rw [if_neg a2, if_neg (fun q => ?_)]
          rcases List.mem_append.mp q.2.1 with w | w
          · exact a2 ⟨q.1, w, q.2.2⟩
          · rw [List.mem_singleton.mp w, hb] at q
            exact absurd q.2.2 (by decide)
      have one : isB s x = true → rnP s (p ++ [x]) v = ua (rnP s p v) 10 x v := fun hb => by
        refine Prod.ext rfl (funext fun f => funext fun y => ?_)
        show (if f = 10 ∧ (y ∈ p ++ [x] ∧ isB s y = true) then v else s.2 f y) = if f = 10 ∧ y = x then v else if f = 10 ∧ (y ∈ p ∧ isB s y = true) then v else s.2 f y
        by_cases a1 : f = 10 ∧ y = x
        · rw [if_pos a1, if_pos ⟨a1.1, by rw [a1.2]; simp, by rw [a1.2]; exact hb⟩]
        · rw [if_neg a1]
          by_cases a2 : f = 10 ∧ (y ∈ p ∧ isB s y = true)
          · rw [if_pos a2, if_pos ⟨a2.1, List.mem_append_left _ a2.2.1, a2.2.2⟩]
          · rw [if_neg a2, if_neg (fun q => ?_)]
            rcases List.mem_append.mp q.2.1 with w | w
            · exact a2 ⟨q.1, w, q.2.2⟩
            · exact a1 ⟨q.1, List.mem_singleton.mp w⟩
      have hcx : cntp (isB s) (x :: m) = (if isB s x then 1 else 0) + cntp (isB s) m := rfl
      rw [hcx] at hn
      refine C215_5 ⟨k1, fun q => by omega, fun _ => ?_⟩
      rw [k2, k3, k4, o4, o6, o7, o8]
      refine ⟨rfl, by omega, rfl, fun q3 => ?_, fun e3 => ?_⟩
      · have hb : isB s x = false := by unfold isB; rw [decide_eq_false q3, Bool.false_and]
        rw [hb] at hn
        refine ⟨by omega, nx n f hn0 (by omega) (by simpa using hn) (by rw [same hb]; exact hOf) hx hr⟩
      · have hbd : bnd ((rnP s p v).2 9) ((rnP s p v).2 10) ((rnP s p v).2 12) ((rnP s p v).2 13) 70 x (s.2 10 x) = bds s x (s.2 10 x) := by
          refine bnd_cg hS.w hSp.w (fun y _ => by rw [rnP_o (by decide)]) (fun y hy q => ?_) 70 x (s.2 10 x) o1
          refine if_neg (fun w => ?_)
          have := w.2.2
          unfold isB at this
          rw [Bool.and_eq_true] at this
          have := of_decide_eq_true this.1
          omega
        have hb0 := bds_in (nu := s.2 10) (x := s.2 10 x) hS o1
        refine nb0_ok hJ o1 (DP_up 61 70 _ (by decide) (DP_tree hSp x o1)) ?_
        rw [hbd]
        refine ⟨A64 hO.1.2.1 hS hb0, A64 hO.1.2.1 hS hcl, fun q => ?_, fun q => ?_⟩
        · have hb : isB s x = false := by unfold isB; rw [decide_eq_false (fun w => q ((Ainj hO.1.2.1 hS hb0 hcl).mpr w)), Bool.and_false]
          rw [hb] at hn
          exact ⟨by omega, nx n f hn0 (by omega) (by simpa using hn) (by rw [same hb]; exact hOf) hx hr⟩
        · have hb : isB s x = true := by unfold isB; rw [decide_eq_true ((Ainj hO.1.2.1 hS hb0 hcl).mp q), decide_eq_true e3]; rfl
          rw [hb] at hn
          obtain ⟨w1, w2⟩ := op_v (y := x) (v := v) hOf (hS.m _ o1)
          refine ⟨by omega, o6, by omega, nx (n + 1) _ (by omega) (by omega) (by simp at hn; omega) (by rw [one hb]; exact w1) (hx.tr w2) hr⟩
  refine C215 ?_
  refine key (fl t) [] 0 c rfl (Int.le_refl _) (Int.le_refl _) (by omega) ?_ CX.rf RMk.rf
  have : rnP s [] v = s := Prod.ext rfl (funext fun f => funext fun y => if_neg (fun q => by simp at q))
  rw [this]
  exact hO
end
end
section
/-! What stands within, how much; rename(), move() by the desk. -/
section
variable {iv : List (Int × Int)} {L : Nat} {h0 : MH} {A A' : Int → Nat} {c e : SC} {s s' : SM} {t : Term} {d : Nat} {P : Int → Prop} {Q : Int → Int → Prop} {K : List Snap}
theorem seq_at (hS : SHT s t) {x : Int} (hx : x ∈ fl t) : ∃ a z r : List Int, fl t = a ++ (fl (sq x t) ++ z) ∧ fl (sq x t) = x :: r ∧ bhs s x = z.headD (-9) := by
  obtain ⟨a, z, e1, -, -⟩ := rpT_fl hS.1 hS.2.2.1 hx
  obtain ⟨b1, b2, b3, b4, b5, b6, b7⟩ := sq_ok hS.1 hS.2.1 hS.2.2.1 hx
  obtain ⟨r, hr⟩ := fl_hd _ b1
  rw [b3] at hr
  refine ⟨a, z, r, e1, hr, ?_⟩
  have h1 := hS.chn
  rw [e1] at h1
  have h2 := (chn_l _ _ _ (chn_l _ _ _ h1).2).1
  have h3 := chn_tree (sq x t) b1 (fun y hy => DP_up 61 70 _ (by decide) (DP_tree hS y (b4 y hy))) (fun y hy hn => by
    have := ((AT_mem _ b1 y hy).2.2.2 hn).1
    exact (hS.m _ (b4 _ this)).1)
  rw [if_neg (by have := b2; unfold full at this; omega), b3] at h3
  exact chn_u _ _ _ (by rw [hr]; simp) h3 h2
theorem rank_at (h1 : LST A c t) {a m : List Int} {x : Int} (e : fl t = a ++ (x :: m)) : fI c (A x) 7 = a.length := (h1.2 a.length x (by rw [e]; simp)).2
theorem sizeAt_c {x : Int} {F : Int → SC → Prop} (h1 : R1 A c s t) (hS : SHT s t) (hx : x ∈ fl t) (hF : F (fl (sq x t)).length c) : ck iv L h0 (d + 1) 209 [vr 70, vr (A x)] c (qi F) := by
  obtain ⟨a, z, r, e1, e2, e3⟩ := seq_at hS hx
  obtain ⟨⟨n1, n2, n3, n4, n5, n6, n7, n8⟩, n9, n10⟩ := h1.1.2.1.2 x (hS.m _ hx).1 (hS.m _ hx).2
  have rx : fI c (A x) 7 = a.length := rank_at h1.1.2.2.2 (m := r ++ z) (by rw [e1, e2]; rfl)
  have hl := hS.2.2.2.1
  have hsz := h1.1.2.2.2.1
  have hlen : (fl t).length = a.length + ((fl (sq x t)).length + z.length) := by rw [e1]; simp
  refine C209 ⟨n1, behind_ok h1.1.2.1 h1.1.2.2.1 hS hx ?_⟩
  rw [e3]
  cases z with
  | nil =>
    have hA : A (([] : List Int).headD (-9)) = 2 := A9 h1.1.2.1
    rw [hA]
    refine ⟨fun q => absurd rfl q, fun _ => ⟨h1.1.1.dk.2.1, n1, ?_⟩⟩
    rw [hsz, rx, hlen]
    refine ⟨by simp; omega, ?_⟩
    have : (((a.length + ((fl (sq x t)).length + ([] : List Int).length) : Nat) : Int)) - a.length = (fl (sq x t)).length := by simp; omega
    rw [this]
    exact hF
  | cons w z =>
    have hw : w ∈ fl t := by rw [e1]; simp
    obtain ⟨⟨m1, m2, m3, m4, m5, m6, m7, m8⟩, m9, m10⟩ := h1.1.2.1.2 w (hS.m _ hw).1 (hS.m _ hw).2
    have rw' : fI c (A w) 7 = ((a ++ fl (sq x t)).length : Nat) := rank_at h1.1.2.2.2 (m := z) (by rw [e1]; simp)
    have hA : A ((w :: z).headD (-9)) = A w := rfl
    rw [hA]
    refine ⟨fun _ => ⟨m1, n1, ?_⟩, fun q => absurd q (h1.1.2.1.ne (hS.m _ hw)).1⟩
    rw [rw', rx, List.length_append]
    refine ⟨by push_cast; omega, ?_⟩
    have : (((a.length + (fl (sq x t)).length : Nat) : Int)) - a.length = (fl (sq x t)).length := by push_cast; omega
    rw [this]
    exact hF
theorem mem_at {a m z : List Int} {j : Nat} {y : Int} (hnd : (a ++ (m ++ z)).Nodup) (hj : (a ++ (m ++ z))[j]? = some y) : y ∈ m ↔ (a.length ≤ j ∧ j < a.length + m.length) := by
  constructor
  · intro hy
    obtain ⟨i, i1, i2⟩ := List.getElem_of_mem hy
    have h2 : (a ++ (m ++ z))[a.length + i]? = some y := by
      rw [List.getElem?_append_right (by omega), List.getElem?_append_left (by omega), List.getElem?_eq_getElem (by omega)]
      simp only [Nat.add_sub_cancel_left]
      rw [i2]
    obtain ⟨j1, j2⟩ := List.getElem?_eq_some_iff.mp hj
    obtain ⟨k1, k2⟩ := List.getElem?_eq_some_iff.mp h2
    have : j = a.length + i := (List.getElem_inj hnd).mp (j2.trans k2.symm)
    omega
  · intro ⟨h1, h2⟩
    rw [List.getElem?_append_right h1, List.getElem?_append_left (by omega)] at hj
    exact List.mem_of_getElem? hj
theorem isWithin_c {y x : Int} {F : Int → SC → Prop} (h1 : R1 A c s t) (hS : SHT s t) (hx : x ∈ fl t) (hy : y ∈ fl t) (H1 : y ∈ fl (sq x t) → F 1 c) (H2 : y ∉ fl (sq x t) → F 0 c) : ck iv L h0 (d + 2) 210 [vr 70, vr (A y), vr (A x)] c (qi F) := by
  obtain ⟨a, z, r, e1, e2, e3⟩ := seq_at hS hx
  obtain ⟨⟨n1, n2, n3, n4, n5, n6, n7, n8⟩, n9, n10⟩ := h1.1.2.1.2 x (hS.m _ hx).1 (hS.m _ hx).2
  obtain ⟨⟨m1, m2, m3, m4, m5, m6, m7, m8⟩, m9, m10⟩ := h1.1.2.1.2 y (hS.m _ hy).1 (hS.m _ hy).2
  have rx : fI c (A x) 7 = a.length := rank_at h1.1.2.2.2 (m := r ++ z) (by rw [e1, e2]; rfl)
  obtain ⟨j, j1, j2⟩ := List.getElem_of_mem hy
  have hj : (fl t)[j]? = some y := by rw [List.getElem?_eq_getElem j1, j2]
  have ry : fI c (A y) 7 = j := (h1.1.2.2.2.2 j y hj).2
  have hmem := mem_at (by rw [← e1]; exact hS.2.2.1) (by rw [← e1]; exact hj)
  have hl := hS.2.2.2.1
  have hlen : (fl t).length = a.length + ((fl (sq x t)).length + z.length) := by rw [e1]; simp
  refine C210 ⟨m1, n1, ?_⟩
  rw [rx, ry]
  refine ⟨fun q => H2 (fun w => by have := hmem.mp w; omega), fun q => ⟨h1.1.1.dk.2.1, sizeAt_c h1 hS hx ⟨by omega, fun w => H2 (fun v => by have := hmem.mp v; omega), fun w => H1 (hmem.mpr ⟨by omega, by omega⟩)⟩⟩⟩
theorem wth_sq (hS : SHT s t) {x : Int} (hx : x ∈ fl t) {y : Int} (hy : y ∈ fl t) : wth7 s y x = true ↔ y ∈ fl (sq x t) := by
  obtain ⟨b1, b2, b3, b4, b5, b6, b7⟩ := sq_ok hS.1 hS.2.1 hS.2.2.1 hx
  constructor
  · have key : ∀ (n : Nat) (y : Int), y ∈ fl t → wth (s.2 12) n y x = true → y ∈ fl (sq x t) := by
      intro n
      induction n with
      | zero => intro y _ h; exact absurd h (by show ¬ (false = true); decide)
      | succ n ih =>
        intro y hy h
        unfold wth at h
        by_cases e : y = x
        · rw [e]
          have := hd_mem _ b1
          rw [b3] at this
          exact this
        · rw [if_neg e] at h
          by_cases e9 : s.2 12 y = -9
          · rw [if_pos e9] at h; exact absurd h (by decide)
          · rw [if_neg e9] at h
            have hn : y ≠ hd t := fun q => e9 (by rw [q]; exact hS.2.2.2.2.2.2.1)
            have hu := hS.up9 hy hn
            have hus := ih _ hu h
            have m := (AT_mem t hS.1 y hy).2.2.2 hn
            have m2 := (AT_mem _ b1 _ hus).2.2.1 (s.2 13 y) m.2.1.1 m.2.1.2 (fun q => by have := b2; unfold full at this; rw [this, ← q]; exact m.2.1.2)
            rw [m.2.2] at m2
            exact m2.1
    exact key 70 y hy
  · intro h; exact sq_wth hS hx h
theorem rename_c {v : Int} {F : Int → SC → Prop} (h1 : R1 A c s t) (hT : AFT s t) (hK : KIs s) (hKS : KSc A c K) (hKP : ∀ u, u ∈ K → KP s u) (hD : 300 ≤ d) (H1 : ¬ renOk s t v → F (renA s t v) c) (H2 : renOk s t v → ∀ e, ACT A c s t K e (rnU s t v) t → F (renA s t v) e) : ck iv L h0 d 17 [vr 64, vi v] c (qi F) := by
  obtain ⟨d, rfl⟩ : ∃ k, d = k + 1 + 1 := ⟨d - 2, by omega⟩
  obtain ⟨⟨d1, d2, d3, d4, d5⟩, e1, e2, e3, e4, e5, e6⟩ := h1.cur hT
  have hS := hT.1
  have hB := hS.2.2.2.2.1
  have hcb := hS.m _ hT.2.2
  have go : (0 ≤ v ∧ v < 26) → (s.2 9 (s.1 16) = 8 ∨ s.2 9 (s.1 16) = 10) → ck iv L h0 (d + 1) 214 [vr 70, vr (A (s.1 16)), vi v] c (qi fun r7 s6 => ((r7 = 0 → (kl s6 64 = 1) ∧ (kl s6 (fR s6 64 1) = 8) ∧ ck iv L h0 (d + 1) 219 [vr (fR s6 64 1)] s6 (qv fun s10 => (kl s10 64 = 1) ∧ (kl s10 (fR s10 64 1) = 8) ∧ ck iv L h0 (d + 1) 215 [vr (fR s10 64 1), vr (A (s.1 16)), vi v] s10 (qi fun r14 s13 => (kl s13 64 = 1) ∧ ck iv L h0 (d + 1) 52 [vr 64] s13 (qv fun s16 => F r14 s16)))) ∧ (r7 ≠ 0 → F (-6) s6))) := fun hv hs => by
    refine catches_ok h1 hT ?_
    by_cases ha : (fl t).any (rnb s v) = true
    · rw [if_pos ha]
      refine ⟨fun q => absurd q (by decide), fun _ => ?_⟩
      have := H1 (fun q => by rw [q.2.2] at ha; exact absurd ha (by decide))
      unfold renA at this
      rw [if_pos (by omega), if_pos hs, if_pos ha] at this
      exact this
    · rw [if_neg ha]
      have ha0 : (fl t).any (rnb s v) = false := by cases h : (fl t).any (rnb s v) with
        | false => rfl
        | true => exact absurd h ha
      have hok : renOk s t v := ⟨by omega, hs, ha0⟩
      have hA : renA s t v = cntp (isB s) (fl t) := by
        unfold renA
        rw [if_pos (by omega), if_pos hs, if_neg ha]
      have H3 := H2 hok
      rw [hA] at H3
      rw [d3]
      refine ⟨fun _ => ⟨d1, d2, rem_ok h1 hT hKS (fun c1 hO1 hK1 hx1 hr1 => ?_)⟩, fun q => absurd rfl q⟩
      have hX1 := hO1.1.1
      obtain ⟨a1, a2, a3, -⟩ := hX1.dk
      have hL1 := h1.1.2.2.2.x h1.1.2.1 hS.m h1.1.1 hx1 (by decide) (by decide) (by decide)
      rw [a3]
      refine ⟨a1, a2, renameAll_ok ⟨hX1, hL1⟩ hT hO1 (fun c2 hO2 hx2 hr2 => ⟨hO2.1.1.dk.1, ?_⟩)⟩
      have hcur : fR c2 70 2 = A (s.1 16) := by
        rw [hx2.r (a := 70) (by have := hX1.2.2.1; omega) (by rw [a2]; decide), hx1.r (a := 70) (by have := h1.1.1.2.2.1; omega) (by rw [d2]; decide)]
        exact e1
      have hAft := ren_aft hT hok
      refine changed0_ok hO2 hcur hAft (KIs_e hK rfl ⟨?_, ?_, ?_, ?_⟩) (fun x hx => hx) (fun x i hx i0 i1 => ⟨hx, i0, by rw [rnU_o (by decide)] at i1; exact i1⟩) (by omega) (fun e g1 g2 g3 g4 => H3 e ⟨A, g1, EXT.rf, (cxa_k hx1).tr ((hx2.up (by decide) (fun _ q => by cases q)).tr (cxa_t g2)), ?_, ?_, g4, (((NWc.rf).x h1.1.1.2.2.1 hx1 hr1 (by decide)).x h1.1.1.2.2.1 hx2 hr2 (by decide)).x h1.1.1.2.2.1 g2 g3 (by decide)⟩)
      · exact rnU_o (by decide)
      · exact rnU_o (by decide)
      · exact rnU_o (by decide)
      · exact rnU_o (by decide)
      · exact ((hr1.tr hr2).tr g3).up (by decide) (by decide)
      · exact hK1.x hX1 EXT.rf hB.1 (kp_push hKP hT) ((hx2.up (ys' := [(5, 4)] ++ tyY) (rs' := srs) (by decide) (fun _ q => by cases q)).tr (g2.up (by decide) (by decide))) (by decide) (by decide)
  have bad : ¬ (0 ≤ v ∧ v < 26) → F (-1) c := fun q => by
    have := H1 (fun w => q (by have := w.1; omega))
    unfold renA at this
    rw [if_neg (by omega)] at this
    exact this
  refine C17 (C40 ⟨fun q => ⟨fun w => absurd rfl w, fun _ => bad (by omega)⟩, fun q => ⟨fun q2 => ⟨fun w => absurd rfl w, fun _ => bad (by omega)⟩, fun q2 => ⟨fun _ => ?_, fun w => absurd w (by decide)⟩⟩⟩)
  rw [d3, e1, e2, e3]
  refine ⟨d1, d2, rfl, fun w => go ⟨q, q2⟩ (Or.inl w), fun w8 => ⟨fun w => go ⟨q, q2⟩ (Or.inr w), fun w10 => ?_⟩⟩
  have := H1 (fun w => w.2.1.elim w8 w10)
  unfold renA at this
  rw [if_pos (by omega), if_neg (by omega)] at this
  exact this
end
end
section
/-! move() by the desk. -/
section
variable {iv : List (Int × Int)} {L : Nat} {h0 : MH} {A A' : Int → Nat} {c e : SC} {s s' : SM} {t : Term} {d : Nat} {P : Int → Prop} {Q : Int → Int → Prop} {K : List Snap}
theorem find_c {b : Int} {F : Nat → SC → Prop} (h1 : R1 A c s t) (hS : SHT s t) (H1 : b ∈ fl t → F (A b) c) (H2 : b ∉ fl t → F 2 c) : ck iv L h0 d 207 [vr 70, vi b] c (qa F) := by
  obtain ⟨k1, k2, k3, k4⟩ := h1.1.1.or
  have key : ∀ (m p : List Int), fl t = p ++ m → b ∉ p → wk iv L h0 d 207 2 [lr 70, li b, li p.length] [] c (qa F) := by
    intro m
    induction m with
    | nil =>
      intro p hp hb
      rw [List.append_nil] at hp
      refine C207_2 ⟨k1, fun _ => H2 (by rw [hp]; exact hb), fun q => ?_⟩
      have := h1.1.2.2.2.1
      rw [hp] at this
      omega
    | cons x m ih =>
      intro p hp hb
      obtain ⟨o1, o2, o3, o4, o5, o6, o7, o8⟩ := R1.ord h1.1 hS hp
      have o0 : fI c (A x) 0 = x := (h1.1.2.1.2 x (hS.m _ o1).1 (hS.m _ o1).2).1.2.2.2.1
      have hsz := h1.1.2.2.2.1
      refine C207_2 ⟨k1, fun q => by omega, fun _ => ?_⟩
      rw [k2, k3, k4, o4, o6, o0]
      refine ⟨rfl, by omega, rfl, fun q => ⟨by omega, ?_⟩, fun q => ?_⟩
      · have := ih (p ++ [x]) (by rw [hp]; simp) (fun w => by
          rcases List.mem_append.mp w with w | w
          · exact hb w
          · exact q (List.mem_singleton.mp w).symm)
        rw [List.length_append] at this
        simp only [List.length_cons, List.length_nil] at this
        push_cast at this
        exact this
      · rw [← q] at H1
        exact H1 o1
  exact C207 (key (fl t) [] rfl (by simp))
theorem mcatch_ok {g : Int} {F : Int → SC → Prop} (h1 : R1 A c s t) (hT : AFT s t) (hg : g ∈ fl t) (hF : F (if (fl (sq (s.1 16) t)).any (mvb s g) = true then 1 else 0) c) : ck iv L h0 (d + 3) 216 [vr 70, vr (A (s.1 16)), vr (A g)] c (qi F) := by
  have hS := hT.1
  obtain ⟨k1, k2, k3, k4⟩ := h1.1.1.or
  have hJ := js_of h1.1.1 h1.1.2.1 h1.1.2.2.1 hS
  have hDP : ∀ x, x ∈ fl t → DP (s.2 12) 70 x := fun x hx => DP_up 61 70 _ (by decide) (DP_tree hS x hx)
  have hcl : s.1 16 = -9 ∨ s.1 16 ∈ fl t := Or.inr hT.2.2
  obtain ⟨a, z, r, e1, e2, e3⟩ := seq_at hS hT.2.2
  have rx : fI c (A (s.1 16)) 7 = a.length := rank_at h1.1.2.2.2 (m := r ++ z) (by rw [e1, e2]; rfl)
  have hkc := (h1.1.2.1.2 _ (hS.m _ hT.2.2).1 (hS.m _ hT.2.2).2).1.1
  have hl := hS.2.2.2.1
  have hsz := h1.1.2.2.2.1
  have hlen : (fl t).length = a.length + ((fl (sq (s.1 16) t)).length + z.length) := by rw [e1]; simp
  have key : ∀ (m p : List Int), fl (sq (s.1 16) t) = p ++ m → F (if m.any (mvb s g) = true then 1 else 0) c → wk iv L h0 (d + 3) 216 17 [lr 70, lr (A (s.1 16)), lr (A g), li ((a.length : Int) + (fl (sq (s.1 16) t)).length), li ((a.length : Int) + p.length)] [] c (qi F) := by
    intro m
    induction m with
    | nil =>
      intro p hp hF
      refine C216_17 ⟨fun _ => hF, fun q => ?_⟩
      rw [hp] at q
      simp at q
    | cons x m ih =>
      intro p hp hF
      obtain ⟨o1, o2, o3, o4, o5, o6, o7, o8⟩ := R1.ord (x := x) (p := a ++ p) (m := m ++ z) h1.1 hS (by rw [e1, hp]; simp)
      rw [List.length_append] at o2 o4
      push_cast at o4
      have hpl : (fl (sq (s.1 16) t)).length = p.length + (m.length + 1) := by rw [hp]; simp
      have nx : mvb s g x = false → wk iv L h0 (d + 3) 216 17 [lr 70, lr (A (s.1 16)), lr (A g), li ((a.length : Int) + (fl (sq (s.1 16) t)).length), li ((a.length : Int) + p.length + 1)] [] c (qi F) := fun hn => by
        have := ih (p ++ [x]) (by rw [hp]; simp) (by rw [List.any_cons, hn, Bool.false_or] at hF; exact hF)
        rw [List.length_append] at this
        simp only [List.length_cons, List.length_nil] at this
        push_cast at this
        rw [← Int.add_assoc] at this
        exact this
      have st : mvb s g x = true → F 1 c := fun hn => by
        rw [List.any_cons, hn, Bool.true_or, if_pos rfl] at hF
        exact hF
      refine C216_17 ⟨fun q => by omega, fun _ => ⟨k1, fun q => by omega, fun _ => ?_⟩⟩
      rw [k2, k3, k4, o4, o6, o7, o8]
      refine ⟨rfl, by omega, rfl, fun q3 => ⟨by omega, nx (by unfold mvb; rw [decide_eq_false q3, Bool.false_and])⟩, fun e3 => ?_⟩
      have hb0 := bds_in (nu := s.2 10) (x := s.2 10 x) hS o1
      have hb1 := bds_in (nu := s.2 10) (x := s.2 10 x) hS hg
      have nbg : (mvb s g x = decide (bds s g (s.2 10 x) ≠ bds s x (s.2 10 x))) → (kl c (A x) = 5) ∧ ck iv L h0 (d + 2) 56 [vr (A g), vi (fI c (A x) 4), vr 2, vi (-9)] c (qa fun r10 s9 => (r10 = 2 ∨ 64 ≤ r10) ∧ (A (bds s x (s.2 10 x)) = 2 ∨ 64 ≤ A (bds s x (s.2 10 x))) ∧ ((r10 = A (bds s x (s.2 10 x)) → (-2147483648 ≤ ((a.length : Int) + p.length) + 1 ∧ ((a.length : Int) + p.length) + 1 ≤ 2147483647) ∧ wk iv L h0 (d + 3) 216 17 [lr 70, lr (A (s.1 16)), lr (A g), li ((a.length : Int) + (fl (sq (s.1 16) t)).length), li ((a.length : Int) + p.length + 1)] [] s9 (qi F)) ∧ (r10 ≠ A (bds s x (s.2 10 x)) → F 1 s9))) := fun hr => by
        refine ⟨o6, ?_⟩
        rw [o8]
        refine nb0_ok hJ hg (hDP g hg) ⟨A64 h1.1.2.1 hS hb1, A64 h1.1.2.1 hS hb0, fun w => ⟨by omega, nx ?_⟩, fun w => st ?_⟩
        · rw [hr]
          exact decide_eq_false (fun z => z ((Ainj h1.1.2.1 hS hb1 hb0).mp w))
        · rw [hr]
          exact decide_eq_true (fun z => w ((Ainj h1.1.2.1 hS hb1 hb0).mpr z))
      refine nb0_ok hJ o1 (hDP x o1) ⟨fun q => nbg ?_, fun q => ⟨k1, ?_⟩⟩
      · have h9 : bds s x (s.2 10 x) = -9 := by
          rcases hb0 with w | w
          · exact w
          · exact absurd q (h1.1.2.1.ne (hS.m _ w)).1
        unfold mvb
        rw [decide_eq_true e3, decide_eq_true h9, Bool.true_or, Bool.true_and, Bool.true_and]
      · have hn9 : ¬ bds s x (s.2 10 x) = -9 := fun w => q (by
          show A (bds s x (s.2 10 x)) = 2
          rw [w]; exact A9 h1.1.2.1)
        have hbt : bds s x (s.2 10 x) ∈ fl t := hb0.resolve_left hn9
        have hw := wth_sq hS hT.2.2 hbt
        refine isWithin_c (d := d) h1 hS hT.2.2 hbt (fun w => ⟨fun _ => ⟨by omega, nx ?_⟩, fun v => absurd v (by decide)⟩) (fun w => ⟨fun v => absurd rfl v, fun _ => nbg ?_⟩)
        · have hwt := hw.mpr w
          unfold mvb
          rw [hwt, decide_eq_false hn9]
          simp
        · have hwf : wth7 s (bds s x (s.2 10 x)) (s.1 16) = false := by
            cases hq : wth7 s (bds s x (s.2 10 x)) (s.1 16) with
            | false => rfl
            | true => exact absurd (hw.mp hq) w
          unfold mvb
          rw [hwf, decide_eq_true e3, decide_eq_false hn9]
          simp
  refine C216 ⟨hkc, k1, sizeAt_c (d := d + 1) h1 hS hT.2.2 ⟨by omega, hkc, ?_⟩⟩
  rw [rx]
  have := key (fl (sq (s.1 16) t)) [] rfl hF
  simp only [List.length_nil] at this
  push_cast at this
  rw [Int.add_zero] at this
  exact this
theorem mem_rp0 {x : Int} {u : Term} : ∀ (t : Term) {z : Int}, z ∈ fl (rp x u t) → z ∈ fl t ∨ z ∈ fl u := by
  intro t
  induction t with
  | add t y ih ihy =>
    intro z hz
    have hz : z ∈ fl (rp x u t) ++ fl (if hd y = x then u else rp x u y) := hz
    rcases List.mem_append.mp hz with q | q
    · exact (ih q).imp (fun w => List.mem_append_left _ w) id
    · split at q
      · exact Or.inr q
      · exact (ihy q).imp (fun w => List.mem_append_right _ w) id
  | _ => intro z hz; exact Or.inl hz
theorem mem_rpT0 {x : Int} {u t : Term} {z : Int} (h : z ∈ fl (rpT x u t)) : z ∈ fl t ∨ z ∈ fl u := by
  unfold rpT at h
  split at h
  · exact Or.inr h
  · exact mem_rp0 t h
theorem move_c {g : Int} {F : Int → SC → Prop} (h1 : R1 A c s t) (hT : AFT s t) (hK : KIs s) (hKS : KSc A c K) (hKP : ∀ u, u ∈ K → KP s u) (hD : 310 ≤ d) (H1 : ¬ mvOk s t g → F (mvA s t g) c) (H2 : mvOk s t g → ∀ e, ACT A c s t K e (mvU s g) (mvT s t g) → F (mvA s t g) e) : ck iv L h0 d 18 [vr 64, vi g] c (qi F) := by
  obtain ⟨d, rfl⟩ : ∃ k, d = k + 1 + 3 := ⟨d - 4, by omega⟩
  obtain ⟨⟨d1, d2, d3, d4, d5⟩, e1, e2, e3, e4, e5, e6⟩ := h1.cur hT
  have hS := hT.1
  have hB := hS.2.2.2.2.1
  have hcb := hS.m _ hT.2.2
  refine C18 ?_
  rw [d3]
  refine ⟨d1, d2, find_c h1 hS (fun hg => ?_) (fun hg => ⟨fun q => absurd rfl q, fun _ => ?_⟩)⟩
  rotate_left
  · have := H1 (fun q => hg q.1)
    unfold mvA at this
    rw [if_neg hg] at this
    exact this
  have hgb := hS.m _ hg
  obtain ⟨⟨n1, n2, n3, n4, n5, n6, n7, n8⟩, n9, n10⟩ := h1.1.2.1.2 _ hgb.1 hgb.2
  have hw := wth_sq hS hT.2.2 hg
  have stt : mvSt s g → F (-4) c := fun q => by
    have := H1 (fun w => w.2.1 q)
    unfold mvA at this
    have q' : s.2 9 g ≠ 0 ∨ g = s.1 16 ∨ wth7 s g (s.1 16) = true := q
    rw [if_pos hg, if_pos q'] at this
    exact this
  rw [d3, e1, n1, n5]
  refine ⟨fun _ => ⟨d1, d2, rfl, fun q => stt (Or.inl q), fun q0 => isWithin_c (d := d + 1) h1 hS hT.2.2 hg (fun w => ⟨fun v => absurd v (by decide), fun _ => stt (Or.inr (Or.inr (hw.mpr w)))⟩) (fun w => ⟨fun _ => ⟨d1, by rw [d3]; exact d2, ?_⟩, fun v => absurd rfl v⟩)⟩, fun q => absurd q (h1.1.2.1.ne hgb).1⟩
  have hns : ¬ mvSt s g := fun q => by
    rcases q with q | q | q
    · exact q q0
    · refine w ?_
      rw [q]
      obtain ⟨b1, b2, b3, b4, b5, b6, b7⟩ := sq_ok hS.1 hS.2.1 hS.2.2.1 hT.2.2
      have := hd_mem _ b1
      rw [b3] at this
      exact this
    · exact w (hw.mp q)
  rw [d3]
  refine lacks_c h1.1.1 e5 hB (by omega) (fun hb => ⟨fun _ => ⟨d1, by rw [d3]; exact d2, ?_⟩, fun q => absurd rfl q⟩) (fun hb => ⟨fun q => absurd q (by decide), fun _ => ?_⟩)
  rotate_left
  · have := H1 (fun q => q.2.2.1 (by omega))
    unfold mvA at this
    have hns' : ¬ (s.2 9 g ≠ 0 ∨ g = s.1 16 ∨ wth7 s g (s.1 16) = true) := hns
    rw [if_pos hg, if_neg hns', if_pos (by omega)] at this
    exact this
  rw [d3]
  refine mcatch_ok h1 hT hg ?_
  have hns' : ¬ (s.2 9 g ≠ 0 ∨ g = s.1 16 ∨ wth7 s g (s.1 16) = true) := hns
  by_cases ha : (fl (sq (s.1 16) t)).any (mvb s g) = true
  · rw [if_pos ha]
    refine ⟨fun q => absurd q (by decide), fun _ => ?_⟩
    have := H1 (fun q => by rw [q.2.2.2] at ha; exact absurd ha (by decide))
    unfold mvA at this
    rw [if_pos hg, if_neg hns', if_neg (by omega), if_pos ha] at this
    exact this
  · rw [if_neg ha]
    have ha0 : (fl (sq (s.1 16) t)).any (mvb s g) = false := by
      cases h : (fl (sq (s.1 16) t)).any (mvb s g) with
      | false => rfl
      | true => exact absurd h ha
    have hok : mvOk s t g := ⟨hg, hns, by omega, ha0⟩
    have hA : mvA s t g = s.1 8 := by
      unfold mvA
      rw [if_pos hg, if_neg hns', if_neg (by omega), if_neg ha]
    have H3 := H2 hok
    rw [hA] at H3
    rw [d3]
    refine ⟨fun _ => ⟨d1, d2, rem_ok h1 hT hKS (fun c1 hO1 hK1 hx1 hr1 => ?_)⟩, fun q => absurd rfl q⟩
    have hX1 := hO1.1.1
    obtain ⟨a1, a2, a3, -⟩ := hX1.dk
    have b8 : fI c1 70 4 = s.1 8 := hO1.2.2.1.2.1
    rw [a3]
    refine ⟨a1, a2, born_c hX1 (by omega) (by omega) (fun c2 hb2 => ?_)⟩
    have hb2' : BORN c1 c2 0 (nvl 0 (-9)) (kvl 0 (-9)) := hb2
    obtain ⟨hO2, hnew, hE2⟩ := op_born hO1 hb2' (by omega) (by omega)
    obtain ⟨a1, a2, a3, -⟩ := hO2.1.1.dk
    rw [a3, ← hnew, ← hE2 (s.1 16) hcb.2, ← hE2 g hgb.2]
    have he := bornU_e (s := s) (so := 0) (v := -9) (k := -9)
    have hold := bornU_o (s := s) (so := 0) (v := -9) (k := -9)
    have b8' : (bornU s 0 (-9) (-9)).1 8 = s.1 8 + 1 := rfl
    refine ⟨a1, a2, repl_c hO2 hT.2.2 ⟨hB.1, by rw [b8']; omega⟩ (fun q => ?_) (fun c3 hO3 hx3 hr3 => ?_)⟩
    · rw [he.2 12 (by decide)] at q ⊢
      rw [he.2 13 (by decide)]
      have hu := pl_in hS hT.2.2 q
      have hum : s.2 12 (s.1 16) ∈ fl t := hS.up9 hT.2.2 (fun w => q (by rw [w]; exact hS.2.2.2.2.2.2.1))
      rw [(hold _ (hS.m _ hum).2).1.1]
      exact hu
    obtain ⟨a1, a2, a3, -⟩ := hO3.1.1.dk
    have hre := replU_e (s := bornU s 0 (-9) (-9)) (o := s.1 16) (c := s.1 8)
    have hri := replU_in (s1 := bornU s 0 (-9) (-9)) (b := s.1 8) hS hT.2.2 (by rw [he.2 12 (by decide)]) (by rw [he.2 13 (by decide)])
    have r8 : (replU (bornU s 0 (-9) (-9)) (s.1 16) (s.1 8)).1 8 = s.1 8 + 1 := (hre.1 8 (by decide)).trans b8'
    have r9o : ∀ x, x < s.1 8 → (replU (bornU s 0 (-9) (-9)) (s.1 16) (s.1 8)).2 9 x = s.2 9 x := fun x hx => by rw [hre.2 9 (by decide)]; exact (hold x hx).1.1
    have rg : (replU (bornU s 0 (-9) (-9)) (s.1 16) (s.1 8)).2 12 g = s.2 12 g ∧ (replU (bornU s 0 (-9) (-9)) (s.1 16) (s.1 8)).2 13 g = s.2 13 g := by
      have := hri.2.2.2.1 g (by omega)
      rw [this.1, this.2, he.2 12 (by decide), he.2 13 (by decide)]
      exact ⟨rfl, rfl⟩
    rw [a3]
    refine ⟨a1, a2, repl_c hO3 (o := g) (Or.inl hg) (y := s.1 16) ⟨hcb.1, by rw [r8]; omega⟩ (fun q => ?_) (fun c4 hO4 hx4 hr4 => ⟨hO4.1.1.dk.1, ?_⟩)⟩
    · rw [rg.1] at q ⊢
      rw [rg.2]
      have hu := pl_in hS hg q
      have hum : s.2 12 g ∈ fl t := hS.up9 hg (fun w => q (by rw [w]; exact hS.2.2.2.2.2.2.1))
      rw [r9o _ (hS.m _ hum).2]
      exact hu
    have hre2 := replU_e (s := replU (bornU s 0 (-9) (-9)) (s.1 16) (s.1 8)) (o := g) (c := s.1 16)
    have hAft := mv_aft hT hok
    have h353 := h1.1.1.2.2.1
    have hcur : fR c4 70 2 = A1 A (s.1 8) (nxt c1) (s.1 16) := by
      rw [hx4.r (a := 70) (by have := hO3.1.1.2.2.1; omega) (by rw [a2]; decide), hx3.r (a := 70) (by have := hO2.1.1.2.2.1; omega) (by rw [hO2.1.1.dk.2.1]; decide), hb2.1.r (a := 70) (by have := hX1.2.2.1; omega) (by rw [hX1.dk.2.1]; decide), hx1.r (a := 70) (by omega) (by rw [d2]; decide), hE2 _ hcb.2]
      exact e1
    have mem : ∀ x, x ∈ fl (mvT s t g) → x ∈ fl t ∨ x = s.1 8 := fun x hx => by
      unfold mvT at hx
      rcases mem_rpT0 hx with q | q
      · rcases mem_rpT0 q with w | w
        · exact Or.inl w
        · right
          have := List.mem_singleton.mp w
          omega
      · obtain ⟨b1, b2, b3, b4, b5, b6, b7⟩ := sq_ok hS.1 hS.2.1 hS.2.2.1 hT.2.2
        exact Or.inl (b4 x q)
    have e16 : (mvU s g).1 16 = s.1 16 := by
      show (replU (replU (bornU s 0 (-9) (-9)) (s.1 16) (s.1 8)) g (s.1 16)).1 16 = s.1 16
      rw [hre2.1 16 (by decide), hre.1 16 (by decide)]
      rfl
    refine changed0_ok hO4 (by show _ = A1 A (s.1 8) (nxt c1) ((mvU s g).1 16); rw [e16]; exact hcur) hAft (KIs_q (KIs_q (KIs_q hK he (by decide) (by decide)) hre (by decide) (by decide)) hre2 (by decide) (by decide)) (fun x hx => ?_) (fun x i hx i0 i1 => ?_) (by omega) (fun e g1 g2 g3 g4 => ?_)
    · rcases mem x hx with q | q
      · exact Or.inl (Or.inl q)
      · exact Or.inl (Or.inr q)
    · rw [hre2.2 9 (by decide)] at i1
      rcases mem x hx with q | q
      · rw [r9o x (hS.m _ q).2] at i1
        exact Or.inl (Or.inl ⟨q, i0, i1⟩)
      · exfalso
        rw [q, hre.2 9 (by decide), (bornU_at (s := s) (so := 0) (v := -9) (k := -9)).1] at i1
        have : pO 0 = 0 := by decide
        omega
    · obtain ⟨n1, n4⟩ := ans_b g1 (y := s.1 8) ⟨hB.1, by rw [hre2.1 8 (by decide), r8]; omega⟩
      refine ⟨n1, ?_⟩
      rw [n4]
      have r2 : RMk 2 16 c1 c2 := ⟨by have := hb2.2.1.1; omega, hb2.2.1.2⟩
      refine H3 e ⟨A1 A (s.1 8) (nxt c1), g1, hE2, (cxa_k hx1).tr ((cxa_b hb2.1).tr ((cxa_l hx3).tr ((cxa_l hx4).tr (cxa_t g2)))), ((((hr1.tr r2).tr hr3).tr hr4).tr g3).up (by decide) (by decide), ?_, g4, (((((NWc.rf).x h353 hx1 hr1 (by decide)).b h353 hb2).x h353 hx3 hr3 (by decide)).x h353 hx4 hr4 (by decide)).x h353 g2 g3 (by decide)⟩
      exact hK1.x hX1 hE2 hB.1 (kp_push hKP hT) ((hb2.1.up (ys' := [(8, 4)] ++ (lys ++ tyY)) (rs' := [1103] ++ srs) (by decide) (fun _ q => by cases q)).tr ((hx3.up (by decide) (by decide)).tr ((hx4.up (by decide) (by decide)).tr (g2.up (by decide) (by decide))))) (by decide) (by decide)
end
end
section
/-! undo() by the desk; states that agree. -/
section
variable {iv : List (Int × Int)} {L : Nat} {h0 : MH} {A A' : Int → Nat} {c e : SC} {s s' w : SM} {t : Term} {d : Nat} {P : Int → Prop} {Q : Int → Int → Prop} {K : List Snap}
/-- the link stands for all states that agree -/
theorem R1_cg (h : R1 A c s t) (hS : SHT s t) (hS' : SHT w t) (hB : NB s) (hK : KIs s) (h8 : w.1 8 = s.1 8) (h16 : w.1 16 = s.1 16) (h2 : w.1 2 = s.1 2) (hr : ∀ x, 0 ≤ x → x < s.1 8 → w.2 9 x = s.2 9 x ∧ w.2 10 x = s.2 10 x ∧ w.2 11 x = s.2 11 x) (hk : ∀ k, 0 ≤ k → k < s.1 2 → w.2 4 k = s.2 4 k ∧ w.2 5 k = s.2 5 k ∧ w.2 6 k = s.2 6 k ∧ w.2 7 k = s.2 7 k) : R1 A c w t := by
  obtain ⟨⟨hX, hN, hH, hL⟩, ⟨hc, hb8⟩, hI, hJ⟩ := h
  have hjd : jdg w t = jdg s t := jdg_un hS.w hS'.w (fun x hx => hr x (hS.m _ hx).1 (hS.m _ hx).2) (fun x hx q => by
    have hq := (hB x (hS.m _ hx).1 (hS.m _ hx).2).2.2.2 q
    rw [kks_told hq, kks_told (by rw [h2]; exact hq)]
    exact kt_lt hK (fun k k0 kn => ⟨(hk k k0 kn).1, (hk k k0 kn).2.1, (hk k k0 kn).2.2.1⟩) _ hq.1 hq.2)
  refine ⟨⟨hX, ⟨fun b hb => hN.1 b (by rw [h8] at hb; exact hb), fun b b0 b1 => ?_⟩, ⟨fun x hx => ?_, hH.2⟩, hL⟩, ⟨by rw [h16]; exact hc, by rw [h8]; exact hb8⟩, ⟨by rw [h2]; exact hI.1, fun k k0 kn => ?_⟩, ?_⟩
  · rw [h8] at b1
    obtain ⟨e1, e2, e3⟩ := hr b b0 b1
    rw [e1, e2, e3]
    exact hN.2 b b0 b1
  · obtain ⟨q1, q2, q3⟩ := hH.1 x hx
    obtain ⟨u1, u2⟩ := hS.w.ul hS'.w hx
    have e9 := (hr x (hS.m _ hx).1 (hS.m _ hx).2).1
    rw [u1, u2, e9]
    exact ⟨q1, q2, fun i i0 i1 => by rw [hS.w.pa hS'.w hx i0 i1]; exact q3 i i0 i1⟩
  · rw [h2] at kn
    obtain ⟨e1, e2, e3, e4⟩ := hk k k0 kn
    rw [e1, e2, e3, e4]
    exact hI.2 k k0 kn
  · unfold JUc
    rw [hjd]
    exact hJ
theorem R1_sx {ey ef : List Nat} (h : R1 A c s t) (hS : SHT s t) (hS' : SHT w t) (hB : NB s) (hK : KIs s) (hx : SX ey ef s w) (hy : 2 ∉ ey ∧ 8 ∉ ey ∧ 16 ∉ ey) (hf : 4 ∉ ef ∧ 5 ∉ ef ∧ 6 ∉ ef ∧ 7 ∉ ef ∧ 9 ∉ ef ∧ 10 ∉ ef ∧ 11 ∉ ef) : R1 A c w t := by
  have h8 := hS.2.2.2.2.1
  have hn := hK.1
  refine R1_cg h hS hS' hB hK (hx.1 8 (by decide) hy.2.1) (hx.1 16 (by decide) hy.2.2) (hx.1 2 (by decide) hy.1) (fun x x0 x1 => ?_) (fun k k0 kn => ?_)
  · exact ⟨hx.2 9 (by decide) hf.2.2.2.2.1 x (by unfold scI; omega), hx.2 10 (by decide) hf.2.2.2.2.2.1 x (by unfold scI; omega), hx.2 11 (by decide) hf.2.2.2.2.2.2 x (by unfold scI; omega)⟩
  · exact ⟨hx.2 4 (by decide) hf.1 k (by unfold scI; omega), hx.2 5 (by decide) hf.2.1 k (by unfold scI; omega), hx.2 6 (by decide) hf.2.2.1 k (by unfold scI; omega), hx.2 7 (by decide) hf.2.2.2.1 k (by unfold scI; omega)⟩
def topU (s : SM) (y : Int) : SM := ua (ua (us s 15 y) 12 y (-9)) 13 y (-9)
theorem topU_2 (s : SM) (y : Int) (f : Nat) (b : Int) : (topU s y).2 f b = if (f = 12 ∨ f = 13) ∧ b = y then -9 else s.2 f b := by
  show (if f = 13 ∧ b = y then (-9 : Int) else if f = 12 ∧ b = y then -9 else s.2 f b) = _
  by_cases a1 : f = 13 ∧ b = y
  · rw [if_pos a1, if_pos ⟨Or.inr a1.1, a1.2⟩]
  · rw [if_neg a1]
    by_cases a2 : f = 12 ∧ b = y
    · rw [if_pos a2, if_pos ⟨Or.inl a2.1, a2.2⟩]
    · rw [if_neg a2, if_neg (fun q => q.1.elim (fun w => a2 ⟨w, q.2⟩) (fun w => a1 ⟨w, q.2⟩))]
theorem op_top {y : Int} (h : OP A c s P Q) (hy : 0 ≤ y ∧ y < s.1 8) : OP A (uR (uR c (A y) 5 2) 70 1 (A y)) (topU s y) (fun b => P b ∨ b = y) Q ∧ CX lys [] c (uR (uR c (A y) 5 2) 70 1 (A y)) := by
  obtain ⟨⟨hX, hN, hI⟩, ⟨hL, hP⟩, ⟨ht, h8, ht0, ht8⟩, hKI, hB⟩ := h
  obtain ⟨⟨m1, m2, m3, m4, m5, m6, m7, m8⟩, m9, m10⟩ := hN.2 y hy.1 hy.2
  have hk := hX.dk
  have n70 : A y ≠ 70 := fun q => by rw [q, hk.2.1] at m1; omega
  have hx1 : CX lys [] c (uR (uR c (A y) 5 2) 70 1 (A y)) := by
    refine CX.uR (CX.uR CX.rf (fun _ => ?_)) (fun _ => ?_)
    · rw [ky5 m10, m1]; decide
    · rw [kl_uR, hk.2.1]; decide
  have o : ∀ f, f ≠ 12 → f ≠ 13 → (topU s y).2 f = s.2 f := fun f f1 f2 => funext fun b => by rw [topU_2, if_neg (by omega)]
  have o1 : ∀ f, f ≠ 15 → (topU s y).1 f = s.1 f := fun f f1 => by show (if f = 15 then y else s.1 f) = _; rw [if_neg f1]
  have ne : ∀ b, b ≠ y → A b ≠ A y := fun b hb q => hb (hN.inj hy q)
  refine ⟨⟨⟨hX.x hx1 (by decide) (by decide), ?_, ⟨fun b hb => ?_, fun b j hb => ?_⟩⟩, ⟨fun b hb => ?_, fun b j hb => ?_⟩, ⟨?_, ?_, ?_, ?_⟩, ?_, hB⟩, hx1⟩
  · have := hN.x hx1 (by decide) (by decide) (by decide) (by decide) (by decide)
    unfold ND at this ⊢
    rw [o 9 (by decide) (by decide), o 10 (by decide) (by decide), o 11 (by decide) (by decide), o1 8 (by decide)]
    exact this
  · rw [o1 8 (by decide), topU_2]
    by_cases q : b = y
    · subst q; rw [if_pos ⟨Or.inl rfl, rfl⟩]; exact ⟨hy, Or.inl rfl⟩
    · rw [if_neg (fun w => q w.2)]; exact hI.1 b (hb.resolve_right q)
  · rw [o1 8 (by decide), o 9 (by decide) (by decide), o 14 (by decide) (by decide)]
    exact hI.2 b j hb
  · rw [fR_uR, if_neg (by omega), fR_uR, topU_2, topU_2]
    by_cases q : b = y
    · subst q
      rw [if_pos ⟨rfl, rfl⟩, if_pos ⟨Or.inl rfl, rfl⟩]
      exact ⟨(A9 hN).symm, fun w => absurd rfl w⟩
    · rw [if_neg (fun w => ne b q w.2), if_neg (fun w => q w.2), if_neg (fun w => q w.2)]
      exact hL b (hb.resolve_right q)
  · rw [o 14 (by decide) (by decide)]
    exact hP b j hb
  · rw [fR_uR, if_pos ⟨rfl, rfl⟩]
    rfl
  · rw [o1 8 (by decide)]; exact h8
  · exact hy.1
  · rw [o1 8 (by decide)]; exact hy.2
  · unfold KIc
    rw [o1 2 (by decide), o 4 (by decide) (by decide), o 5 (by decide) (by decide), o 6 (by decide) (by decide), o 7 (by decide) (by decide)]
    exact hKI
def uyY : List (Nat × Nat) := (5, 4) :: (5, 12) :: lys
/-- what a thing that was kept looks like as a sheet -/
def unS (s : SM) (u : Snap) : SM := ((undU s u).1, fun f => if f = 12 ∨ f = 13 ∨ f = 14 then u.2.2 f else (undU s u).2 f)
/-- bringing back: so far -/
def BB (s st : SM) (u : Snap) (p : List Int) : Prop := eqx [15] [10, 12, 13, 14] s st ∧ (∀ y, st.2 10 y = if y ∈ p then u.2.2 10 y else s.2 10 y) ∧ (∀ x, x ∈ p → st.2 12 x = u.2.2 12 x ∧ (x ≠ hd u.1 → st.2 13 x = u.2.2 13 x ∧ st.2 14 (3 * u.2.2 12 x + u.2.2 13 x) = x)) ∧ (hd u.1 ∈ p → st.1 15 = hd u.1)
/-- fillers: gone at these, else as they were or gone -/
def FL2 (A : Int → Nat) (c f : SC) (p : List Int) : Prop := (∀ x, x ∈ p → fR f (A x) 12 = 2) ∧ ∀ a, a < nxt c → fR f a 12 = fR c a 12 ∨ fR f a 12 = 2
theorem bring_ok {u : Snap} {i : Nat} {F : SC → Prop} (hi : i < 20) (hO : OP A c s (fun _ => False) (fun _ _ => False)) (hK : KP s u) (hS : SNc A c (75 + 5 * i) u) (hF : ∀ e st, OP A e st (fun x => x ∈ fl u.1) (fun b j => ∃ x, x ∈ fl u.1 ∧ x ≠ hd u.1 ∧ b = u.2.2 12 x ∧ j = u.2.2 13 x) → BB s st u (fl u.1) → FL2 A c e (fl u.1) → CX uyY [1103] c e → RMk 0 0 c e → F (uR e 70 2 (A (u.2.1 16)))) : ck iv L h0 (d + 1) 223 [vr (75 + 5 * i), vr 70] c (qv F) := by
  obtain ⟨⟨p1, p2, p3, p4⟩, p5, p6, p7, p8⟩ := hK
  have hB8 := hO.2.2.2.2
  have key : ∀ (m p : List Int) (f : SC) (st : SM), fl u.1 = p ++ m → OP A f st (fun x => x ∈ p) (fun b j => ∃ x, x ∈ p ∧ x ≠ hd u.1 ∧ b = u.2.2 12 x ∧ j = u.2.2 13 x) → BB s st u p → FL2 A c f p → CX uyY [1103] c f → RMk 0 0 c f → wk iv L h0 (d + 1) 223 2 [lr (75 + 5 * i), lr 70, li p.length] [] f (qv F) := by
    intro m
    induction m with
    | nil =>
      intro p f st hp hOf hBB hfl hx hr
      obtain ⟨o1, o2, ⟨o3, o4, o5, o6⟩, ⟨o7, o8, o9, o10⟩, o11, o12, o13, o14⟩ := hOf.1.1.2.1.1 i hi
      obtain ⟨c1, c2, ⟨c3, c4, c5, c6⟩, ⟨c7, c8, c9, c10⟩, c11, c12, c13, c14⟩ := hO.1.1.2.1.1 i hi
      have h353 := hO.1.1.2.2.1
      have hky : ky (75 + 5 * i) (kl c (75 + 5 * i)) = 9 := by rw [c2]; unfold ky; rw [if_neg (by omega)]
      have e4 : fI f (75 + 5 * i) 4 = (fl u.1).length := by rw [hx.i (by omega) (by rw [hky]; decide)]; exact hS.1.1
      have e5 : fR f (75 + 5 * i) 5 = A (u.2.1 16) := by rw [hx.r (by omega) (by rw [hky]; decide)]; exact hS.1.2
      rw [List.append_nil] at hp
      refine C223_2 ⟨o2, fun _ => ⟨hOf.1.1.dk.2.1, ?_⟩, fun q => ?_⟩
      · rw [e5]
        rw [← hp] at hOf hBB hfl
        exact hF f st hOf hBB hfl hx hr
      · rw [e4, hp] at q; omega
    | cons x m ih =>
      intro p f st hp hOf hBB hfl hx hr
      obtain ⟨o1, o2, ⟨o3, o4, o5, o6⟩, ⟨o7, o8, o9, o10⟩, o11, o12, o13, o14⟩ := hOf.1.1.2.1.1 i hi
      obtain ⟨c1, c2, ⟨c3, c4, c5, c6⟩, ⟨c7, c8, c9, c10⟩, c11, c12, c13, c14⟩ := hO.1.1.2.1.1 i hi
      have h353 := hO.1.1.2.2.1
      have hky : ky (75 + 5 * i) (kl c (75 + 5 * i)) = 9 := by rw [c2]; unfold ky; rw [if_neg (by omega)]
      have e4 : fI f (75 + 5 * i) 4 = (fl u.1).length := by rw [hx.i (by omega) (by rw [hky]; decide)]; exact hS.1.1
      have hxm : x ∈ fl u.1 := by rw [hp]; simp
      have hget : (fl u.1)[p.length]? = some x := by rw [hp]; simp
      have hlen : (fl u.1).length = p.length + (m.length + 1) := by rw [hp]; simp
      have hxB := (AT_mem u.1 p1 x hxm).1
      have e8 : st.1 8 = s.1 8 := hBB.1.1 8 (by decide)
      have e9 : st.2 9 = s.2 9 := hBB.1.2 9 (by decide)
      have hxst : 0 ≤ x ∧ x < st.1 8 := by rw [e8]; exact hxB
      obtain ⟨q1, q2, q3, q4⟩ := hS.2 p.length x hget
      have row : ∀ a, 75 < a → a < 175 → aI f a = aI c a ∧ aR f a = aR c a := fun a a1 a2 => by
        have hq : rk a (kl c a) ∉ [1103] := by unfold rk; rw [if_pos (by omega)]; simp; omega
        exact ⟨hx.ai (by omega) hq, hx.ar (by omega) hq⟩
      have r1 : aR f (76 + 5 * i) (p.length : Int) = A x := by rw [(row _ (by omega) (by omega)).2, ← q1, show 75 + 5 * i + 1 = 76 + 5 * i by omega]
      have r2 : aR f (77 + 5 * i) (p.length : Int) = A (u.2.2 12 x) := by rw [(row _ (by omega) (by omega)).2, ← q2, show 75 + 5 * i + 2 = 77 + 5 * i by omega]
      have r3 : x ≠ hd u.1 → aI f (78 + 5 * i) (p.length : Int) = u.2.2 13 x := fun q => by rw [(row _ (by omega) (by omega)).1, ← q3 q, show 75 + 5 * i + 3 = 78 + 5 * i by omega]
      have r4 : aI f (79 + 5 * i) (p.length : Int) = u.2.2 10 x := by rw [(row _ (by omega) (by omega)).1, ← q4, show 75 + 5 * i + 4 = 79 + 5 * i by omega]
      obtain ⟨⟨n1, n2, n3, n4, n5, n6, n7, n8⟩, n9, n10⟩ := hOf.1.2.1.2 x hxst.1 hxst.2
      have hxp : x ∉ p := fun q => by
        rw [hp] at p3
        exact (List.nodup_append.mp p3).2.2 x q x (by simp) rfl
      -- number and filler
      obtain ⟨hO1, hx1⟩ := op_v (v := u.2.2 10 x) hOf hxst
      have hx2 : CX [(5, 12)] [] (uI f (A x) 4 (u.2.2 10 x)) (uR (uI f (A x) 4 (u.2.2 10 x)) (A x) 12 2) := CX.rf.uR (fun _ => by rw [kl_uI, ky5 n10, n1]; decide)
      have hO2 := op_x hO1 hx2 (by decide) (by decide) (by decide) (by decide) ⟨by decide, by decide, by decide, by decide⟩ ⟨by decide, by decide, by decide, by decide⟩
      have hxg : CX uyY [1103] c (uR (uI f (A x) 4 (u.2.2 10 x)) (A x) 12 2) := hx.tr ((hx1.up (by decide) (fun _ q => by cases q)).tr (hx2.up (by decide) (fun _ q => by cases q)))
      have hflg : FL2 A c (uR (uI f (A x) 4 (u.2.2 10 x)) (A x) 12 2) (p ++ [x]) := ⟨fun y hy => by
        rw [fR_uR]
        by_cases q : A y = A x
        · rw [if_pos ⟨rfl, q⟩]
        · rw [if_neg (fun w => q w.2), fR_uI]
          rcases List.mem_append.mp hy with w | w
          · exact hfl.1 y w
          · exact absurd (by rw [List.mem_singleton.mp w]) q, fun a ha => by
        rw [fR_uR]
        by_cases q : a = A x
        · rw [if_pos ⟨rfl, q⟩]; exact Or.inr rfl
        · rw [if_neg (fun w => q w.2), fR_uI]
          exact hfl.2 a ha⟩
      generalize hg : uR (uI f (A x) 4 (u.2.2 10 x)) (A x) 12 2 = g at hO2 hxg hflg
      have b10 : ∀ y, (ua st 10 x (u.2.2 10 x)).2 10 y = if y ∈ p ++ [x] then u.2.2 10 y else s.2 10 y := fun y => by
        show (if (10 : Nat) = 10 ∧ y = x then u.2.2 10 x else st.2 10 y) = _
        by_cases q : y = x
        · subst q; rw [if_pos ⟨rfl, rfl⟩, if_pos (by simp)]
        · rw [if_neg (fun w => q w.2), hBB.2.1]
          by_cases q2 : y ∈ p
          · rw [if_pos q2, if_pos (List.mem_append_left _ q2)]
          · rw [if_neg q2, if_neg (fun w => (List.mem_append.mp w).elim q2 (fun w => q (List.mem_singleton.mp w)))]
      have oo : ∀ f, f ≠ 10 → (ua st 10 x (u.2.2 10 x)).2 f = st.2 f := fun f hf => by
        funext y
        show (if f = 10 ∧ y = x then u.2.2 10 x else st.2 f y) = st.2 f y
        rw [if_neg (fun w => hf w.1)]
      have hexq : eqx [15] [10, 12, 13, 14] s (ua st 10 x (u.2.2 10 x)) := eqx_ua hBB.1 (by decide)
      have nx : ∀ (f' : SC) (st' : SM), OP A f' st' (fun y => y ∈ p ++ [x]) (fun b j => ∃ y, y ∈ p ++ [x] ∧ y ≠ hd u.1 ∧ b = u.2.2 12 y ∧ j = u.2.2 13 y) → BB s st' u (p ++ [x]) → FL2 A c f' (p ++ [x]) → CX uyY [1103] c f' → RMk 0 0 c f' → wk iv L h0 (d + 1) 223 2 [lr (75 + 5 * i), lr 70, li ((p.length : Int) + 1)] [] f' (qv F) := fun f' st' a1 a2 a5 a3 a4 => by
        have := ih (p ++ [x]) f' st' (by rw [hp]; simp) a1 a2 a5 a3 a4
        rw [List.length_append] at this
        simp only [List.length_cons, List.length_nil] at this
        push_cast at this
        exact this
      have hrg : RMk 0 0 c g := by rw [← hg]; exact hr
      have keep : ∀ {f' : SC} {rs : List Nat}, CX lys rs g f' → FL2 A c f' (p ++ [x]) := fun hx3 => ⟨fun y hy => by
        have hyB : 0 ≤ y ∧ y < s.1 8 := by
          have : y ∈ fl u.1 := by
            rw [hp]
            rcases List.mem_append.mp hy with w | w
            · exact List.mem_append_left _ w
            · rw [List.mem_singleton.mp w]; simp
          exact (AT_mem u.1 p1 y this).1
        obtain ⟨⟨z1, z2, z3, z4, z5, z6, z7, z8⟩, z9, z10⟩ := hO2.1.2.1.2 y hyB.1 (by show y < st.1 8; rw [e8]; exact hyB.2)
        rw [hx3.r (by omega) (by rw [ky5 z10, z1]; decide)]
        exact hflg.1 y hy, fun a ha => by
        rw [hx3.r (Nat.lt_of_lt_of_le ha hxg.n) (by unfold lys; simp)]
        exact hflg.2 a ha⟩
      refine C223_2 ⟨o2, fun q => by rw [e4] at q; omega, fun _ => ?_⟩
      rw [o3, o4, o5, o6, o7, o8, o9, o10, o11, o12, o13, o14, r1, r2, r4, n1, hg]
      refine ⟨rfl, by omega, rfl, by omega, rfl, rfl, by omega, fun hnn => ?_, fun hnn => ?_⟩
      · have hxh : x ≠ hd u.1 := fun q => hnn (by rw [q, p6]; exact A9 hO.1.2.1)
        have m := (AT_mem u.1 p1 x hxm).2.2.2 hxh
        have hu := (AT_mem u.1 p1 _ m.1).1
        have hust : 0 ≤ u.2.2 12 x ∧ u.2.2 12 x < (ua st 10 x (u.2.2 10 x)).1 8 := by show _ ∧ _ < st.1 8; rw [e8]; exact hu
        have hku := (hOf.1.2.1.2 _ hust.1 hust.2).1.1
        rw [r3 hxh]
        refine ⟨rfl, by omega, hku, hang_c hO2 hust hxst ?_ (fun f' hO3 hx3 hr3 => ⟨by omega, nx f' _ (op_mo hO3 (fun y hy => ?_) (fun b j hb => ?_)) ⟨?_, fun y => ?_, fun y hy => ?_, fun hh => ?_⟩ (keep hx3) (hxg.tr (hx3.up (by decide) (by decide))) (hrg.tr hr3)⟩)⟩
        · rw [oo 9 (by decide), e9]; exact m.2.1
        · rcases List.mem_append.mp hy with q | q
          · exact Or.inl q
          · exact Or.inr (List.mem_singleton.mp q)
        · obtain ⟨y, y1, y2, y3, y4⟩ := hb
          rcases List.mem_append.mp y1 with q | q
          · exact Or.inl ⟨y, q, y2, y3, y4⟩
          · rw [List.mem_singleton.mp q] at y3 y4
            exact Or.inr ⟨y3, y4⟩
        · exact hexq.tr (partU_e.up (fun _ q => by cases q) (fun y q => by simp at q ⊢; omega))
        · rw [(partU_e (s := ua st 10 x (u.2.2 10 x)) (b := u.2.2 12 x) (i := u.2.2 13 x) (c := x)).2 10 (by decide)]
          exact b10 y
        · have v12 : ∀ z, (partU (ua st 10 x (u.2.2 10 x)) (u.2.2 12 x) (u.2.2 13 x) x).2 12 z = if z = x then u.2.2 12 x else st.2 12 z := fun z => by
            show (if (12 : Nat) = 13 ∧ z = x then u.2.2 13 x else if (12 : Nat) = 12 ∧ z = x then u.2.2 12 x else if (12 : Nat) = 14 ∧ z = 3 * u.2.2 12 x + u.2.2 13 x then x else if (12 : Nat) = 10 ∧ z = x then u.2.2 10 x else st.2 12 z) = _
            simp
          have v13 : ∀ z, (partU (ua st 10 x (u.2.2 10 x)) (u.2.2 12 x) (u.2.2 13 x) x).2 13 z = if z = x then u.2.2 13 x else st.2 13 z := fun z => by
            show (if (13 : Nat) = 13 ∧ z = x then u.2.2 13 x else if (13 : Nat) = 12 ∧ z = x then u.2.2 12 x else if (13 : Nat) = 14 ∧ z = 3 * u.2.2 12 x + u.2.2 13 x then x else if (13 : Nat) = 10 ∧ z = x then u.2.2 10 x else st.2 13 z) = _
            simp
          have v14 : ∀ z, (partU (ua st 10 x (u.2.2 10 x)) (u.2.2 12 x) (u.2.2 13 x) x).2 14 z = if z = 3 * u.2.2 12 x + u.2.2 13 x then x else st.2 14 z := fun z => by
            show (if (14 : Nat) = 13 ∧ z = x then u.2.2 13 x else if (14 : Nat) = 12 ∧ z = x then u.2.2 12 x else if (14 : Nat) = 14 ∧ z = 3 * u.2.2 12 x + u.2.2 13 x then x else if (14 : Nat) = 10 ∧ z = x then u.2.2 10 x else st.2 14 z) = _
            simp
          rw [v12, v13, v14]
          rcases List.mem_append.mp hy with q | q
          · have hyx : y ≠ x := fun w => hxp (by rw [← w]; exact q)
            obtain ⟨g1, g2⟩ := hBB.2.2.1 y q
            rw [if_neg hyx, if_neg hyx]
            refine ⟨g1, fun w => ⟨(g2 w).1, ?_⟩⟩
            rw [if_neg (fun z => ?_)]
            · exact (g2 w).2
            · have hym : y ∈ fl u.1 := by rw [hp]; exact List.mem_append_left _ q
              have my := (AT_mem u.1 p1 y hym).2.2.2 w
              rw [← m.2.2, ← z, my.2.2] at hyx
              exact hyx rfl
          · have hyx := List.mem_singleton.mp q
            subst hyx
            rw [if_pos rfl, if_pos rfl, if_pos rfl]
            exact ⟨rfl, fun _ => ⟨rfl, rfl⟩⟩
        · rcases List.mem_append.mp hh with q | q
          · exact hBB.2.2.2 q
          · exact absurd (List.mem_singleton.mp q).symm hxh
      · have hxh : x = hd u.1 := by
          by_cases q : x = hd u.1
          · exact q
          · have m := (AT_mem u.1 p1 x hxm).2.2.2 q
            have hu := (AT_mem u.1 p1 _ m.1).1
            exact absurd hnn (hO.1.2.1.ne hu).1
        obtain ⟨hO3, hx3⟩ := op_top hO2 hxst
        refine ⟨hOf.1.1.dk.2.1, by omega, nx _ _ (op_mo hO3 (fun y hy => ?_) (fun b j hb => ?_)) ⟨?_, fun y => ?_, fun y hy => ?_, fun hh => ?_⟩ (keep hx3) (hxg.tr (hx3.up (by decide) (fun _ q => by cases q))) hrg⟩
        · rcases List.mem_append.mp hy with q | q
          · exact Or.inl q
          · exact Or.inr (List.mem_singleton.mp q)
        · obtain ⟨y, y1, y2, y3, y4⟩ := hb
          rcases List.mem_append.mp y1 with q | q
          · exact ⟨y, q, y2, y3, y4⟩
          · exact absurd ((List.mem_singleton.mp q).trans hxh) y2
        · exact eqx_ua (eqx_ua (eqx_us hexq (by decide)) (by decide)) (by decide)
        · rw [topU_2, if_neg (by omega)]
          exact b10 y
        · rw [topU_2, topU_2, topU_2]
          rcases List.mem_append.mp hy with q | q
          · have hyx : y ≠ x := fun w => hxp (by rw [← w]; exact q)
            rw [if_neg (fun w => hyx w.2), if_neg (fun w => hyx w.2), if_neg (by omega)]
            exact hBB.2.2.1 y q
          · have hyx := List.mem_singleton.mp q
            subst hyx
            rw [if_pos ⟨Or.inl rfl, rfl⟩]
            refine ⟨?_, fun w => absurd hxh w⟩
            rw [hxh]; exact p6.symm
        · show x = hd u.1
          exact hxh
  refine C223 ?_
  have h0' : OP A c s (fun x => x ∈ ([] : List Int)) (fun b j => ∃ x, x ∈ ([] : List Int) ∧ x ≠ hd u.1 ∧ b = u.2.2 12 x ∧ j = u.2.2 13 x) := op_mo hO (fun x q => by cases q) (fun b j q => by obtain ⟨x, q, -⟩ := q; cases q)
  exact key (fl u.1) [] c s rfl h0' ⟨eqx.rf, (fun y => by rw [if_neg (by simp)]), (fun x q => by cases q), (fun q => by cases q)⟩ ⟨fun x q => (by cases q), fun a _ => Or.inl rfl⟩ CX.rf RMk.rf
end
end
