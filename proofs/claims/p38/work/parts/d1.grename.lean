section
/-! rename() by the desk. -/
section
variable {iv : List (Int × Int)} {L : Nat} {h0 : MH} {A A' : Int → Nat} {c e : SC} {s s' : SM} {t : Term} {d : Nat} {P : Int → Prop} {Q : Int → Int → Prop} {K : List Snap}
theorem bnd_two {so nu up pl : Int → Int} {q v : Int} : ∀ (n : Nat) (b x : Int), bnd so nu up pl n b x ≠ q → bnd so (fun y => if y = q then v else nu y) up pl n b x = bnd so nu up pl n b x ∨ bnd so (fun y => if y = q then v else nu y) up pl n b x = q := by
  intro n
  induction n with
  | zero => intro b x _; exact Or.inl rfl
  | succ n ih =>
    intro b x h
    unfold bnd at h ⊢
    by_cases e : up b = -9
    · rw [if_pos e, if_pos e]; exact Or.inl rfl
    · rw [if_neg e] at h
      rw [if_neg e, if_neg e]
      by_cases eq : up b = q
      · simp only [if_pos eq]
        by_cases c1 : (so (up b) = 8 ∨ so (up b) = 10 ∧ pl b = 1) ∧ nu (up b) = x
        · rw [if_pos c1] at h
          exact absurd eq h
        · rw [if_neg c1] at h
          by_cases c2 : (so (up b) = 8 ∨ so (up b) = 10 ∧ pl b = 1) ∧ v = x
          · rw [if_pos c2]; exact Or.inr eq
          · rw [if_neg c2, if_neg c1]
            exact ih _ x h
      · simp only [if_neg eq]
        by_cases c1 : (so (up b) = 8 ∨ so (up b) = 10 ∧ pl b = 1) ∧ nu (up b) = x
        · rw [if_pos c1, if_pos c1]; exact Or.inl rfl
        · rw [if_neg c1] at h
          rw [if_neg c1, if_neg c1]
          exact ih _ x h
theorem Ainj (hN : ND A c s) (hS : SHT s t) {b b' : Int} (hb : b = -9 ∨ b ∈ fl t) (hb' : b' = -9 ∨ b' ∈ fl t) : A b = A b' ↔ b = b' := by
  constructor
  · intro e
    rcases hb' with q | q
    · subst q
      rw [A9 hN] at e
      rcases hb with w | w
      · exact w
      · exact absurd e (hN.ne (hS.m _ w)).1
    · exact hN.inj (hS.m _ q) e
  · intro e; rw [e]
theorem A64 (hN : ND A c s) (hS : SHT s t) {b : Int} (hb : b = -9 ∨ b ∈ fl t) : A b = 2 ∨ 64 ≤ A b := by
  rcases hb with q | q
  · left; rw [q]; exact A9 hN
  · right; exact (hN.ne (hS.m _ q)).2
/-- the nodes one by one -/
theorem R1.ord (h1 : FIX c ∧ ND A c s ∧ HG A c s t ∧ LST A c t) (hS : SHT s t) {p m : List Int} {x : Int} (e : fl t = p ++ x :: m) : x ∈ fl t ∧ p.length < 60 ∧ (fl t).length = p.length + 1 + m.length ∧ aR c 71 (p.length : Int) = A x ∧ fI c (A x) 7 = p.length ∧ kl c (A x) = 5 ∧ fI c (A x) 1 = s.2 9 x ∧ fI c (A x) 4 = s.2 10 x := by
  have hxm : x ∈ fl t := by rw [e]; simp
  have hl := hS.2.2.2.1
  have hle : (fl t).length = p.length + 1 + m.length := by rw [e]; simp; omega
  obtain ⟨g1, g2⟩ := h1.2.2.2.2 p.length x (by rw [e]; simp)
  obtain ⟨⟨n1, n2, n3, n4, n5, n6, n7, n8⟩, n9, n10⟩ := h1.2.1.2 x (hS.m _ hxm).1 (hS.m _ hxm).2
  exact ⟨hxm, by omega, hle, g1, g2, n1, n5, n8⟩
theorem FIX.or (h : FIX c) : kl c 70 = 8 ∧ fR c 70 0 = 71 ∧ kl c 71 = 103 ∧ le c 71 = 60 := by
  simp only [h.1]
  exact ⟨trivial, trivial, trivial, trivial⟩
theorem bds_in (hS : SHT s t) {nu : Int → Int} {y x : Int} (hy : y ∈ fl t) : bnd (s.2 9) nu (s.2 12) (s.2 13) 70 y x = -9 ∨ bnd (s.2 9) nu (s.2 12) (s.2 13) 70 y x ∈ fl t := (bnd_mem hS.w 70 y x hy).imp id (fun q => q.1)
theorem rnb_eq (hS : SHT s t) {v y : Int} (hy : y ∈ fl t) (e3 : s.2 9 y = 3) : rnb s v y = decide (bdR s v y (if isB s y then v else s.2 10 y) ≠ bds s y (s.2 10 y)) := by
  unfold rnb
  rw [decide_eq_true e3, Bool.true_and]
  have hB : isB s y = decide (bds s y (s.2 10 y) = s.1 16) := by unfold isB; rw [decide_eq_true e3, Bool.true_and]
  by_cases hb : bds s y (s.2 10 y) = s.1 16
  · have h1 : isB s y = true := by rw [hB]; exact decide_eq_true hb
    rw [h1, hb]
    by_cases q : bdR s v y (if true = true then v else s.2 10 y) = s.1 16
    · rw [decide_eq_true q, decide_eq_false (fun w => w q)]; rfl
    · rw [decide_eq_false q, decide_eq_true q]; rfl
  · have h1 : isB s y = false := by rw [hB]; exact decide_eq_false hb
    rw [h1]
    have two : bdR s v y (s.2 10 y) = bds s y (s.2 10 y) ∨ bdR s v y (s.2 10 y) = s.1 16 := bnd_two 70 y (s.2 10 y) hb
    show (decide (bdR s v y (s.2 10 y) = s.1 16) != false) = decide (bdR s v y (s.2 10 y) ≠ bds s y (s.2 10 y))
    by_cases q : bdR s v y (s.2 10 y) = s.1 16
    · have hne : bdR s v y (s.2 10 y) ≠ bds s y (s.2 10 y) := fun w => hb (by rw [← w]; exact q)
      rw [decide_eq_true q, decide_eq_true hne]; rfl
    · have hne : ¬ (bdR s v y (s.2 10 y) ≠ bds s y (s.2 10 y)) := fun w => w (two.resolve_right q)
      rw [decide_eq_false q, decide_eq_false hne]; rfl
theorem catches_ok {v : Int} {F : Int → SC → Prop} (h1 : R1 A c s t) (hT : AFT s t) (hF : F (if (fl t).any (rnb s v) = true then 1 else 0) c) : ck iv L h0 (d + 1) 214 [vr 70, vr (A (s.1 16)), vi v] c (qi F) := by
  have hS := hT.1
  obtain ⟨k1, k2, k3, k4⟩ := h1.1.1.or
  have hJ := js_of h1.1.1 h1.1.2.1 h1.1.2.2.1 hS
  have hDP : ∀ x, x ∈ fl t → DP (s.2 12) 70 x := fun x hx => DP_up 61 70 _ (by decide) (DP_tree hS x hx)
  have hcl : s.1 16 = -9 ∨ s.1 16 ∈ fl t := Or.inr hT.2.2
  have key : ∀ (m p : List Int), fl t = p ++ m → F (if m.any (rnb s v) = true then 1 else 0) c → wk iv L h0 (d + 1) 214 2 [lr 70, lr (A (s.1 16)), li v, li p.length] [] c (qi F) := by
    intro m
    induction m with
    | nil =>
      intro p hp hF
      refine C214_2 ⟨k1, fun _ => hF, fun q => ?_⟩
      have := h1.1.2.2.2.1
      rw [hp] at this
      simp at this
      omega
    | cons x m ih =>
      intro p hp hF
      obtain ⟨o1, o2, o3, o4, o5, o6, o7, o8⟩ := R1.ord h1.1 hS hp
      have hsz := h1.1.2.2.2.1
      have nx : rnb s v x = false → wk iv L h0 (d + 1) 214 2 [lr 70, lr (A (s.1 16)), li v, li ((p.length : Int) + 1)] [] c (qi F) := fun hn => by
        have := ih (p ++ [x]) (by rw [hp]; simp) (by rw [List.any_cons, hn, Bool.false_or] at hF; exact hF)
        rw [List.length_append] at this
        simp only [List.length_cons, List.length_nil] at this
        push_cast at this
        exact this
      have st : rnb s v x = true → F 1 c := fun hn => by
        rw [List.any_cons, hn, Bool.true_or, if_pos rfl] at hF
        exact hF
      refine C214_2 ⟨k1, fun q => by omega, fun _ => ?_⟩
      rw [k2, k3, k4, o4, o6, o7, o8]
      refine ⟨rfl, by omega, rfl, fun q3 => ⟨by omega, nx (by unfold rnb; rw [decide_eq_false q3, Bool.false_and])⟩, fun e3 => ?_⟩
      have hr := rnb_eq hS (v := v) o1 e3
      have hb0 := bds_in (nu := s.2 10) (x := s.2 10 x) hS o1
      refine nb0_ok hJ o1 (hDP x o1) ⟨A64 h1.1.2.1 hS hb0, A64 h1.1.2.1 hS hcl, fun q => ⟨o6, ?_⟩, fun q => ?_⟩
      · have hnb : ¬ bds s x (s.2 10 x) = s.1 16 := fun w => q ((Ainj h1.1.2.1 hS hb0 hcl).mpr w)
        have hB : isB s x = false := by unfold isB; rw [decide_eq_false hnb, Bool.and_false]
        rw [o8]
        refine nb_ok (nu := nuR s v) (q := s.1 16) (z := v) hJ hcl (fun y _ => rfl) o1 (hDP x o1) ?_
        have hb1 := bds_in (nu := nuR s v) (x := s.2 10 x) hS o1
        rw [hB] at hr
        refine ⟨A64 h1.1.2.1 hS hb1, fun w => ⟨by omega, nx ?_⟩, fun w => st ?_⟩
        · rw [hr]
          exact decide_eq_false (fun z => z ((Ainj h1.1.2.1 hS hb1 hb0).mp w))
        · rw [hr]
          exact decide_eq_true (fun z => w ((Ainj h1.1.2.1 hS hb1 hb0).mpr z))
      · have hnb : bds s x (s.2 10 x) = s.1 16 := (Ainj h1.1.2.1 hS hb0 hcl).mp q
        have hB : isB s x = true := by unfold isB; rw [decide_eq_true hnb, decide_eq_true e3]; rfl
        refine nb_ok (nu := nuR s v) (q := s.1 16) (z := v) hJ hcl (fun y _ => rfl) o1 (hDP x o1) ?_
        have hb1 := bds_in (nu := nuR s v) (x := v) hS o1
        rw [hB] at hr
        refine ⟨A64 h1.1.2.1 hS hb1, fun w => ⟨by omega, nx ?_⟩, fun w => st ?_⟩
        · rw [hr]
          exact decide_eq_false (fun z => z ((Ainj h1.1.2.1 hS hb1 hb0).mp w))
        · rw [hr]
          exact decide_eq_true (fun z => w ((Ainj h1.1.2.1 hS hb1 hb0).mpr z))
  refine C214 ?_
  exact key (fl t) [] rfl hF
/-- names renamed so far -/
def rnP (s : SM) (p : List Int) (v : Int) : SM := (s.1, fun f y => if f = 10 ∧ (y ∈ p ∧ isB s y = true) then v else s.2 f y)
theorem rnP_x {p : List Int} {v : Int} : SX [] [10] s (rnP s p v) := ⟨fun _ _ _ => rfl, fun f _ hf i _ => if_neg (fun q => hf (by rw [q.1]; simp))⟩
theorem rnP_o {p : List Int} {v : Int} {f : Nat} (hf : f ≠ 10) : (rnP s p v).2 f = s.2 f := by
  funext y
  exact if_neg (fun q => hf q.1)
theorem renameAll_ok {v : Int} {F : Int → SC → Prop} (h1 : FIX c ∧ LST A c t) (hT : AFT s t) (hO : OP A c s (fun x => x ∈ fl t) (fun b i => b ∈ fl t ∧ 0 ≤ i ∧ i < pO (s.2 9 b))) (hF : ∀ e, OP A e (rnU s t v) (fun x => x ∈ fl t) (fun b i => b ∈ fl t ∧ 0 ≤ i ∧ i < pO (s.2 9 b)) → CX [(5, 4)] [] c e → RMk 0 0 c e → F (cntp (isB s) (fl t)) e) : ck iv L h0 (d + 1) 215 [vr 70, vr (A (s.1 16)), vi v] c (qi F) := by
  have hS := hT.1
  have hcl : s.1 16 = -9 ∨ s.1 16 ∈ fl t := Or.inr hT.2.2
  have hcb := hS.m _ hT.2.2
  have key : ∀ (m p : List Int) (n : Int) (f : SC), fl t = p ++ m → 0 ≤ n → n ≤ p.length → n + cntp (isB s) m = cntp (isB s) (fl t) → OP A f (rnP s p v) (fun x => x ∈ fl t) (fun b i => b ∈ fl t ∧ 0 ≤ i ∧ i < pO (s.2 9 b)) → CX [(5, 4)] [] c f → RMk 0 0 c f → wk iv L h0 (d + 1) 215 5 [lr 70, lr (A (s.1 16)), li v, li n, li p.length] [] f (qi F) := by
    intro m
    induction m with
    | nil =>
      intro p n f hp hn0 hnl hn hOf hx hr
      obtain ⟨k1, k2, k3, k4⟩ := hOf.1.1.or
      have hL := h1.2.x hO.1.2.1 hS.m h1.1 hx (by decide) (by decide) (by decide)
      have hk := (hOf.1.2.1.2 _ hcb.1 hcb.2).1.1
      obtain ⟨o1, o2⟩ := op_v (v := v) hOf hcb
      refine C215_5 ⟨k1, fun _ => ⟨hk, ?_⟩, fun q => ?_⟩
      · rw [show n = cntp (isB s) (fl t) by rw [← hn]; show n = n + 0; omega]
        rw [List.append_nil] at hp
        have he : ua (rnP s p v) 10 (s.1 16) v = rnU s t v := by
          refine Prod.ext rfl (funext fun f => funext fun y => ?_)
          show (if f = 10 ∧ y = s.1 16 then v else if f = 10 ∧ (y ∈ p ∧ isB s y = true) then v else s.2 f y) = if f = 10 ∧ (y = s.1 16 ∨ (y ∈ fl t ∧ isB s y = true)) then v else s.2 f y
          rw [hp]
          by_cases a1 : f = 10 ∧ y = s.1 16
          · rw [if_pos a1, if_pos ⟨a1.1, Or.inl a1.2⟩]
          · rw [if_neg a1]
            by_cases a2 : f = 10 ∧ (y ∈ p ∧ isB s y = true)
            · rw [if_pos a2, if_pos ⟨a2.1, Or.inr a2.2⟩]
            · rw [if_neg a2, if_neg (fun q => q.2.elim (fun w => a1 ⟨q.1, w⟩) (fun w => a2 ⟨q.1, w⟩))]
        rw [he] at o1
        exact hF _ o1 (hx.tr o2) hr
      · have := hL.1
        rw [hp] at this
        simp at this
        omega
    | cons x m ih =>
      intro p n f hp hn0 hnl hn hOf hx hr
      have hSp : SHT (rnP s p v) t := hS.x rnP_x (by decide) (by decide)
      have hLf := h1.2.x hO.1.2.1 hS.m h1.1 hx (by decide) (by decide) (by decide)
      have hHf : HG A f (rnP s p v) t := op_HG hOf hSp (fun x hx => hx) (fun x i hx i0 i1 => ⟨hx, i0, by rw [rnP_o (by decide)] at i1; exact i1⟩)
      obtain ⟨k1, k2, k3, k4⟩ := hOf.1.1.or
      obtain ⟨o1, o2, o3, o4, o5, o6, o7, o8⟩ := R1.ord ⟨hOf.1.1, hOf.1.2.1, hHf, hLf⟩ hSp hp
      have hJ := js_of hOf.1.1 hOf.1.2.1 hHf hSp
      have hxp : x ∉ p := fun q => by
        have := hS.2.2.1
        rw [hp] at this
        exact (List.nodup_append.mp this).2.2 x q x (by simp) rfl
      have e10 : (rnP s p v).2 10 x = s.2 10 x := if_neg (fun q => hxp q.2.1)
      have e9 : (rnP s p v).2 9 x = s.2 9 x := by rw [rnP_o (by decide)]
      rw [e9] at o7
      rw [e10] at o8
      have hsz := hLf.1
      have nx : ∀ (n' : Int) (f' : SC), 0 ≤ n' → n' ≤ p.length + 1 → n' + cntp (isB s) m = cntp (isB s) (fl t) → OP A f' (rnP s (p ++ [x]) v) (fun x => x ∈ fl t) (fun b i => b ∈ fl t ∧ 0 ≤ i ∧ i < pO (s.2 9 b)) → CX [(5, 4)] [] c f' → RMk 0 0 c f' → wk iv L h0 (d + 1) 215 5 [lr 70, lr (A (s.1 16)), li v, li n', li ((p.length : Int) + 1)] [] f' (qi F) := fun n' f' a0 a1 a2 a3 a4 a5 => by
        have := ih (p ++ [x]) n' f' (by rw [hp]; simp) a0 (by simp; exact a1) a2 a3 a4 a5
        rw [List.length_append] at this
        simp only [List.length_cons, List.length_nil] at this
        push_cast at this
        exact this
      have same : isB s x = false → rnP s (p ++ [x]) v = rnP s p v := fun hb => by
        refine Prod.ext rfl (funext fun f => funext fun y => ?_)
        show (if f = 10 ∧ (y ∈ p ++ [x] ∧ isB s y = true) then v else s.2 f y) = if f = 10 ∧ (y ∈ p ∧ isB s y = true) then v else s.2 f y
        by_cases a2 : f = 10 ∧ (y ∈ p ∧ isB s y = true)
        · rw [if_pos a2, if_pos ⟨a2.1, List.mem_append_left _ a2.2.1, a2.2.2⟩]
        · rw [if_neg a2, if_neg (fun q => ?_)]
          rcases List.mem_append.mp q.2.1 with w | w
          · exact a2 ⟨q.1, w, q.2.2⟩
          · rw [List.mem_singleton.mp w, hb] at q
            exact absurd q.2.2 (by decide)
      have one : isB s x = true → rnP s (p ++ [x]) v = ua (rnP s p v) 10 x v := fun hb => by
        refine Prod.ext rfl (funext fun f => funext fun y => ?_)
        show (if f = 10 ∧ (y ∈ p ++ [x] ∧ isB s y = true) then v else s.2 f y) = if f = 10 ∧ y = x then v else if f = 10 ∧ (y ∈ p ∧ isB s y = true) then v else s.2 f y
        by_cases a1 : f = 10 ∧ y = x
        · rw [if_pos a1, if_pos ⟨a1.1, by rw [a1.2]; simp, by rw [a1.2]; exact hb⟩]
        · rw [if_neg a1]
          by_cases a2 : f = 10 ∧ (y ∈ p ∧ isB s y = true)
          · rw [if_pos a2, if_pos ⟨a2.1, List.mem_append_left _ a2.2.1, a2.2.2⟩]
          · rw [if_neg a2, if_neg (fun q => ?_)]
            rcases List.mem_append.mp q.2.1 with w | w
            · exact a2 ⟨q.1, w, q.2.2⟩
            · exact a1 ⟨q.1, List.mem_singleton.mp w⟩
      have hcx : cntp (isB s) (x :: m) = (if isB s x then 1 else 0) + cntp (isB s) m := rfl
      rw [hcx] at hn
      refine C215_5 ⟨k1, fun q => by omega, fun _ => ?_⟩
      rw [k2, k3, k4, o4, o6, o7, o8]
      refine ⟨rfl, by omega, rfl, fun q3 => ?_, fun e3 => ?_⟩
      · have hb : isB s x = false := by unfold isB; rw [decide_eq_false q3, Bool.false_and]
        rw [hb] at hn
        refine ⟨by omega, nx n f hn0 (by omega) (by simpa using hn) (by rw [same hb]; exact hOf) hx hr⟩
      · have hbd : bnd ((rnP s p v).2 9) ((rnP s p v).2 10) ((rnP s p v).2 12) ((rnP s p v).2 13) 70 x (s.2 10 x) = bds s x (s.2 10 x) := by
          refine bnd_cg hS.w hSp.w (fun y _ => by rw [rnP_o (by decide)]) (fun y hy q => ?_) 70 x (s.2 10 x) o1
          refine if_neg (fun w => ?_)
          have := w.2.2
          unfold isB at this
          rw [Bool.and_eq_true] at this
          have := of_decide_eq_true this.1
          omega
        have hb0 := bds_in (nu := s.2 10) (x := s.2 10 x) hS o1
        refine nb0_ok hJ o1 (DP_up 61 70 _ (by decide) (DP_tree hSp x o1)) ?_
        rw [hbd]
        refine ⟨A64 hO.1.2.1 hS hb0, A64 hO.1.2.1 hS hcl, fun q => ?_, fun q => ?_⟩
        · have hb : isB s x = false := by unfold isB; rw [decide_eq_false (fun w => q ((Ainj hO.1.2.1 hS hb0 hcl).mpr w)), Bool.and_false]
          rw [hb] at hn
          exact ⟨by omega, nx n f hn0 (by omega) (by simpa using hn) (by rw [same hb]; exact hOf) hx hr⟩
        · have hb : isB s x = true := by unfold isB; rw [decide_eq_true ((Ainj hO.1.2.1 hS hb0 hcl).mp q), decide_eq_true e3]; rfl
          rw [hb] at hn
          obtain ⟨w1, w2⟩ := op_v (y := x) (v := v) hOf (hS.m _ o1)
          refine ⟨by omega, o6, by omega, nx (n + 1) _ (by omega) (by omega) (by simp at hn; omega) (by rw [one hb]; exact w1) (hx.tr w2) hr⟩
  refine C215 ?_
  refine key (fl t) [] 0 c rfl (Int.le_refl _) (Int.le_refl _) (by omega) ?_ CX.rf RMk.rf
  have : rnP s [] v = s := Prod.ext rfl (funext fun f => funext fun y => if_neg (fun q => by simp at q))
  rw [this]
  exact hO
end
end
section
/-! What stands within, how much; rename(), move() by the desk. -/
section
variable {iv : List (Int × Int)} {L : Nat} {h0 : MH} {A A' : Int → Nat} {c e : SC} {s s' : SM} {t : Term} {d : Nat} {P : Int → Prop} {Q : Int → Int → Prop} {K : List Snap}
theorem seq_at (hS : SHT s t) {x : Int} (hx : x ∈ fl t) : ∃ a z r : List Int, fl t = a ++ (fl (sq x t) ++ z) ∧ fl (sq x t) = x :: r ∧ bhs s x = z.headD (-9) := by
  obtain ⟨a, z, e1, -, -⟩ := rpT_fl hS.1 hS.2.2.1 hx
  obtain ⟨b1, b2, b3, b4, b5, b6, b7⟩ := sq_ok hS.1 hS.2.1 hS.2.2.1 hx
  obtain ⟨r, hr⟩ := fl_hd _ b1
  rw [b3] at hr
  refine ⟨a, z, r, e1, hr, ?_⟩
  have h1 := hS.chn
  rw [e1] at h1
  have h2 := (chn_l _ _ _ (chn_l _ _ _ h1).2).1
  have h3 := chn_tree (sq x t) b1 (fun y hy => DP_up 61 70 _ (by decide) (DP_tree hS y (b4 y hy))) (fun y hy hn => by
    have := ((AT_mem _ b1 y hy).2.2.2 hn).1
    exact (hS.m _ (b4 _ this)).1)
  rw [if_neg (by have := b2; unfold full at this; omega), b3] at h3
  exact chn_u _ _ _ (by rw [hr]; simp) h3 h2
theorem rank_at (h1 : LST A c t) {a m : List Int} {x : Int} (e : fl t = a ++ (x :: m)) : fI c (A x) 7 = a.length := (h1.2 a.length x (by rw [e]; simp)).2
theorem sizeAt_c {x : Int} {F : Int → SC → Prop} (h1 : R1 A c s t) (hS : SHT s t) (hx : x ∈ fl t) (hF : F (fl (sq x t)).length c) : ck iv L h0 (d + 1) 209 [vr 70, vr (A x)] c (qi F) := by
  obtain ⟨a, z, r, e1, e2, e3⟩ := seq_at hS hx
  obtain ⟨⟨n1, n2, n3, n4, n5, n6, n7, n8⟩, n9, n10⟩ := h1.1.2.1.2 x (hS.m _ hx).1 (hS.m _ hx).2
  have rx : fI c (A x) 7 = a.length := rank_at h1.1.2.2.2 (m := r ++ z) (by rw [e1, e2]; rfl)
  have hl := hS.2.2.2.1
  have hsz := h1.1.2.2.2.1
  have hlen : (fl t).length = a.length + ((fl (sq x t)).length + z.length) := by rw [e1]; simp
  refine C209 ⟨n1, behind_ok h1.1.2.1 h1.1.2.2.1 hS hx ?_⟩
  rw [e3]
  cases z with
  | nil =>
    have hA : A (([] : List Int).headD (-9)) = 2 := A9 h1.1.2.1
    rw [hA]
    refine ⟨fun q => absurd rfl q, fun _ => ⟨h1.1.1.dk.2.1, n1, ?_⟩⟩
    rw [hsz, rx, hlen]
    refine ⟨by simp; omega, ?_⟩
    have : (((a.length + ((fl (sq x t)).length + ([] : List Int).length) : Nat) : Int)) - a.length = (fl (sq x t)).length := by simp; omega
    rw [this]
    exact hF
  | cons w z =>
    have hw : w ∈ fl t := by rw [e1]; simp
    obtain ⟨⟨m1, m2, m3, m4, m5, m6, m7, m8⟩, m9, m10⟩ := h1.1.2.1.2 w (hS.m _ hw).1 (hS.m _ hw).2
    have rw' : fI c (A w) 7 = ((a ++ fl (sq x t)).length : Nat) := rank_at h1.1.2.2.2 (m := z) (by rw [e1]; simp)
    have hA : A ((w :: z).headD (-9)) = A w := rfl
    rw [hA]
    refine ⟨fun _ => ⟨m1, n1, ?_⟩, fun q => absurd q (h1.1.2.1.ne (hS.m _ hw)).1⟩
    rw [rw', rx, List.length_append]
    refine ⟨by push_cast; omega, ?_⟩
    have : (((a.length + (fl (sq x t)).length : Nat) : Int)) - a.length = (fl (sq x t)).length := by push_cast; omega
    rw [this]
    exact hF
theorem mem_at {a m z : List Int} {j : Nat} {y : Int} (hnd : (a ++ (m ++ z)).Nodup) (hj : (a ++ (m ++ z))[j]? = some y) : y ∈ m ↔ (a.length ≤ j ∧ j < a.length + m.length) := by
  constructor
  · intro hy
    obtain ⟨i, i1, i2⟩ := List.getElem_of_mem hy
    have h2 : (a ++ (m ++ z))[a.length + i]? = some y := by
      rw [List.getElem?_append_right (by omega), List.getElem?_append_left (by omega), List.getElem?_eq_getElem (by omega)]
      simp only [Nat.add_sub_cancel_left]
      rw [i2]
    obtain ⟨j1, j2⟩ := List.getElem?_eq_some_iff.mp hj
    obtain ⟨k1, k2⟩ := List.getElem?_eq_some_iff.mp h2
    have : j = a.length + i := (List.getElem_inj hnd).mp (j2.trans k2.symm)
    omega
  · intro ⟨h1, h2⟩
    rw [List.getElem?_append_right h1, List.getElem?_append_left (by omega)] at hj
    exact List.mem_of_getElem? hj
theorem isWithin_c {y x : Int} {F : Int → SC → Prop} (h1 : R1 A c s t) (hS : SHT s t) (hx : x ∈ fl t) (hy : y ∈ fl t) (H1 : y ∈ fl (sq x t) → F 1 c) (H2 : y ∉ fl (sq x t) → F 0 c) : ck iv L h0 (d + 2) 210 [vr 70, vr (A y), vr (A x)] c (qi F) := by
  obtain ⟨a, z, r, e1, e2, e3⟩ := seq_at hS hx
  obtain ⟨⟨n1, n2, n3, n4, n5, n6, n7, n8⟩, n9, n10⟩ := h1.1.2.1.2 x (hS.m _ hx).1 (hS.m _ hx).2
  obtain ⟨⟨m1, m2, m3, m4, m5, m6, m7, m8⟩, m9, m10⟩ := h1.1.2.1.2 y (hS.m _ hy).1 (hS.m _ hy).2
  have rx : fI c (A x) 7 = a.length := rank_at h1.1.2.2.2 (m := r ++ z) (by rw [e1, e2]; rfl)
  obtain ⟨j, j1, j2⟩ := List.getElem_of_mem hy
  have hj : (fl t)[j]? = some y := by rw [List.getElem?_eq_getElem j1, j2]
  have ry : fI c (A y) 7 = j := (h1.1.2.2.2.2 j y hj).2
  have hmem := mem_at (by rw [← e1]; exact hS.2.2.1) (by rw [← e1]; exact hj)
  have hl := hS.2.2.2.1
  have hlen : (fl t).length = a.length + ((fl (sq x t)).length + z.length) := by rw [e1]; simp
  refine C210 ⟨m1, n1, ?_⟩
  rw [rx, ry]
  refine ⟨fun q => H2 (fun w => by have := hmem.mp w; omega), fun q => ⟨h1.1.1.dk.2.1, sizeAt_c h1 hS hx ⟨by omega, fun w => H2 (fun v => by have := hmem.mp v; omega), fun w => H1 (hmem.mpr ⟨by omega, by omega⟩)⟩⟩⟩
theorem wth_sq (hS : SHT s t) {x : Int} (hx : x ∈ fl t) {y : Int} (hy : y ∈ fl t) : wth7 s y x = true ↔ y ∈ fl (sq x t) := by
  obtain ⟨b1, b2, b3, b4, b5, b6, b7⟩ := sq_ok hS.1 hS.2.1 hS.2.2.1 hx
  constructor
  · have key : ∀ (n : Nat) (y : Int), y ∈ fl t → wth (s.2 12) n y x = true → y ∈ fl (sq x t) := by
      intro n
      induction n with
      | zero => intro y _ h; exact absurd h (by show ¬ (false = true); decide)
      | succ n ih =>
        intro y hy h
        unfold wth at h
        by_cases e : y = x
        · rw [e]
          have := hd_mem _ b1
          rw [b3] at this
          exact this
        · rw [if_neg e] at h
          by_cases e9 : s.2 12 y = -9
          · rw [if_pos e9] at h; exact absurd h (by decide)
          · rw [if_neg e9] at h
            have hn : y ≠ hd t := fun q => e9 (by rw [q]; exact hS.2.2.2.2.2.2.1)
            have hu := hS.up9 hy hn
            have hus := ih _ hu h
            have m := (AT_mem t hS.1 y hy).2.2.2 hn
            have m2 := (AT_mem _ b1 _ hus).2.2.1 (s.2 13 y) m.2.1.1 m.2.1.2 (fun q => by have := b2; unfold full at this; rw [this, ← q]; exact m.2.1.2)
            rw [m.2.2] at m2
            exact m2.1
    exact key 70 y hy
  · intro h; exact sq_wth hS hx h
theorem rename_c {v : Int} {F : Int → SC → Prop} (h1 : R1 A c s t) (hT : AFT s t) (hK : KIs s) (hKS : KSc A c K) (hKP : ∀ u, u ∈ K → KP s u) (hD : 300 ≤ d) (H1 : ¬ renOk s t v → F (renA s t v) c) (H2 : renOk s t v → ∀ e, ACT A c s t K e (rnU s t v) t → F (renA s t v) e) : ck iv L h0 d 17 [vr 64, vi v] c (qi F) := by
  obtain ⟨d, rfl⟩ : ∃ k, d = k + 1 + 1 := ⟨d - 2, by omega⟩
  obtain ⟨⟨d1, d2, d3, d4, d5⟩, e1, e2, e3, e4, e5, e6⟩ := h1.cur hT
  have hS := hT.1
  have hB := hS.2.2.2.2.1
  have hcb := hS.m _ hT.2.2
  have go : (0 ≤ v ∧ v < 26) → (s.2 9 (s.1 16) = 8 ∨ s.2 9 (s.1 16) = 10) → ck iv L h0 (d + 1) 214 [vr 70, vr (A (s.1 16)), vi v] c (qi fun r7 s6 => ((r7 = 0 → (kl s6 64 = 1) ∧ (kl s6 (fR s6 64 1) = 8) ∧ ck iv L h0 (d + 1) 219 [vr (fR s6 64 1)] s6 (qv fun s10 => (kl s10 64 = 1) ∧ (kl s10 (fR s10 64 1) = 8) ∧ ck iv L h0 (d + 1) 215 [vr (fR s10 64 1), vr (A (s.1 16)), vi v] s10 (qi fun r14 s13 => (kl s13 64 = 1) ∧ ck iv L h0 (d + 1) 52 [vr 64] s13 (qv fun s16 => F r14 s16)))) ∧ (r7 ≠ 0 → F (-6) s6))) := fun hv hs => by
    refine catches_ok h1 hT ?_
    by_cases ha : (fl t).any (rnb s v) = true
    · rw [if_pos ha]
      refine ⟨fun q => absurd q (by decide), fun _ => ?_⟩
      have := H1 (fun q => by rw [q.2.2] at ha; exact absurd ha (by decide))
      unfold renA at this
      rw [if_pos (by omega), if_pos hs, if_pos ha] at this
      exact this
    · rw [if_neg ha]
      have ha0 : (fl t).any (rnb s v) = false := by cases h : (fl t).any (rnb s v) with
        | false => rfl
        | true => exact absurd h ha
      have hok : renOk s t v := ⟨by omega, hs, ha0⟩
      have hA : renA s t v = cntp (isB s) (fl t) := by
        unfold renA
        rw [if_pos (by omega), if_pos hs, if_neg ha]
      have H3 := H2 hok
      rw [hA] at H3
      rw [d3]
      refine ⟨fun _ => ⟨d1, d2, rem_ok h1 hT hKS (fun c1 hO1 hK1 hx1 hr1 => ?_)⟩, fun q => absurd rfl q⟩
      have hX1 := hO1.1.1
      obtain ⟨a1, a2, a3, -⟩ := hX1.dk
      have hL1 := h1.1.2.2.2.x h1.1.2.1 hS.m h1.1.1 hx1 (by decide) (by decide) (by decide)
      rw [a3]
      refine ⟨a1, a2, renameAll_ok ⟨hX1, hL1⟩ hT hO1 (fun c2 hO2 hx2 hr2 => ⟨hO2.1.1.dk.1, ?_⟩)⟩
      have hcur : fR c2 70 2 = A (s.1 16) := by
        rw [hx2.r (a := 70) (by have := hX1.2.2.1; omega) (by rw [a2]; decide), hx1.r (a := 70) (by have := h1.1.1.2.2.1; omega) (by rw [d2]; decide)]
        exact e1
      have hAft := ren_aft hT hok
      refine changed0_ok hO2 hcur hAft (KIs_e hK rfl ⟨?_, ?_, ?_, ?_⟩) (fun x hx => hx) (fun x i hx i0 i1 => ⟨hx, i0, by rw [rnU_o (by decide)] at i1; exact i1⟩) (by omega) (fun e g1 g2 g3 g4 => H3 e ⟨A, g1, EXT.rf, (cxa_k hx1).tr ((hx2.up (by decide) (fun _ q => by cases q)).tr (cxa_t g2)), ?_, ?_, g4, (((NWc.rf).x h1.1.1.2.2.1 hx1 hr1 (by decide)).x h1.1.1.2.2.1 hx2 hr2 (by decide)).x h1.1.1.2.2.1 g2 g3 (by decide)⟩)
      · exact rnU_o (by decide)
      · exact rnU_o (by decide)
      · exact rnU_o (by decide)
      · exact rnU_o (by decide)
      · exact ((hr1.tr hr2).tr g3).up (by decide) (by decide)
      · exact hK1.x hX1 EXT.rf hB.1 (kp_push hKP hT) ((hx2.up (ys' := [(5, 4)] ++ tyY) (rs' := srs) (by decide) (fun _ q => by cases q)).tr (g2.up (by decide) (by decide))) (by decide) (by decide)
  have bad : ¬ (0 ≤ v ∧ v < 26) → F (-1) c := fun q => by
    have := H1 (fun w => q (by have := w.1; omega))
    unfold renA at this
    rw [if_neg (by omega)] at this
    exact this
  refine C17 (C40 ⟨fun q => ⟨fun w => absurd rfl w, fun _ => bad (by omega)⟩, fun q => ⟨fun q2 => ⟨fun w => absurd rfl w, fun _ => bad (by omega)⟩, fun q2 => ⟨fun _ => ?_, fun w => absurd w (by decide)⟩⟩⟩)
  rw [d3, e1, e2, e3]
  refine ⟨d1, d2, rfl, fun w => go ⟨q, q2⟩ (Or.inl w), fun w8 => ⟨fun w => go ⟨q, q2⟩ (Or.inr w), fun w10 => ?_⟩⟩
  have := H1 (fun w => w.2.1.elim w8 w10)
  unfold renA at this
  rw [if_pos (by omega), if_neg (by omega)] at this
  exact this
end
end
section
/-! move() by the desk. -/
section
variable {iv : List (Int × Int)} {L : Nat} {h0 : MH} {A A' : Int → Nat} {c e : SC} {s s' : SM} {t : Term} {d : Nat} {P : Int → Prop} {Q : Int → Int → Prop} {K : List Snap}
theorem find_c {b : Int} {F : Nat → SC → Prop} (h1 : R1 A c s t) (hS : SHT s t) (H1 : b ∈ fl t → F (A b) c) (H2 : b ∉ fl t → F 2 c) : ck iv L h0 d 207 [vr 70, vi b] c (qa F) := by
  obtain ⟨k1, k2, k3, k4⟩ := h1.1.1.or
  have key : ∀ (m p : List Int), fl t = p ++ m → b ∉ p → wk iv L h0 d 207 2 [lr 70, li b, li p.length] [] c (qa F) := by
    intro m
    induction m with
    | nil =>
      intro p hp hb
      rw [List.append_nil] at hp
      refine C207_2 ⟨k1, fun _ => H2 (by rw [hp]; exact hb), fun q => ?_⟩
      have := h1.1.2.2.2.1
      rw [hp] at this
      omega
    | cons x m ih =>
      intro p hp hb
      obtain ⟨o1, o2, o3, o4, o5, o6, o7, o8⟩ := R1.ord h1.1 hS hp
      have o0 : fI c (A x) 0 = x := (h1.1.2.1.2 x (hS.m _ o1).1 (hS.m _ o1).2).1.2.2.2.1
      have hsz := h1.1.2.2.2.1
      refine C207_2 ⟨k1, fun q => by omega, fun _ => ?_⟩
      rw [k2, k3, k4, o4, o6, o0]
      refine ⟨rfl, by omega, rfl, fun q => ⟨by omega, ?_⟩, fun q => ?_⟩
      · have := ih (p ++ [x]) (by rw [hp]; simp) (fun w => by
          rcases List.mem_append.mp w with w | w
          · exact hb w
          · exact q (List.mem_singleton.mp w).symm)
        rw [List.length_append] at this
        simp only [List.length_cons, List.length_nil] at this
        push_cast at this
        exact this
      · rw [← q] at H1
        exact H1 o1
  exact C207 (key (fl t) [] rfl (by simp))
theorem mcatch_ok {g : Int} {F : Int → SC → Prop} (h1 : R1 A c s t) (hT : AFT s t) (hg : g ∈ fl t) (hF : F (if (fl (sq (s.1 16) t)).any (mvb s g) = true then 1 else 0) c) : ck iv L h0 (d + 3) 216 [vr 70, vr (A (s.1 16)), vr (A g)] c (qi F) := by
  have hS := hT.1
  obtain ⟨k1, k2, k3, k4⟩ := h1.1.1.or
  have hJ := js_of h1.1.1 h1.1.2.1 h1.1.2.2.1 hS
  have hDP : ∀ x, x ∈ fl t → DP (s.2 12) 70 x := fun x hx => DP_up 61 70 _ (by decide) (DP_tree hS x hx)
  have hcl : s.1 16 = -9 ∨ s.1 16 ∈ fl t := Or.inr hT.2.2
  obtain ⟨a, z, r, e1, e2, e3⟩ := seq_at hS hT.2.2
  have rx : fI c (A (s.1 16)) 7 = a.length := rank_at h1.1.2.2.2 (m := r ++ z) (by rw [e1, e2]; rfl)
  have hkc := (h1.1.2.1.2 _ (hS.m _ hT.2.2).1 (hS.m _ hT.2.2).2).1.1
  have hl := hS.2.2.2.1
  have hsz := h1.1.2.2.2.1
  have hlen : (fl t).length = a.length + ((fl (sq (s.1 16) t)).length + z.length) := by rw [e1]; simp
  have key : ∀ (m p : List Int), fl (sq (s.1 16) t) = p ++ m → F (if m.any (mvb s g) = true then 1 else 0) c → wk iv L h0 (d + 3) 216 17 [lr 70, lr (A (s.1 16)), lr (A g), li ((a.length : Int) + (fl (sq (s.1 16) t)).length), li ((a.length : Int) + p.length)] [] c (qi F) := by
    intro m
    induction m with
    | nil =>
      intro p hp hF
      refine C216_17 ⟨fun _ => hF, fun q => ?_⟩
      rw [hp] at q
      simp at q
    | cons x m ih =>
      intro p hp hF
      obtain ⟨o1, o2, o3, o4, o5, o6, o7, o8⟩ := R1.ord (x := x) (p := a ++ p) (m := m ++ z) h1.1 hS (by rw [e1, hp]; simp)
      rw [List.length_append] at o2 o4
      push_cast at o4
      have hpl : (fl (sq (s.1 16) t)).length = p.length + (m.length + 1) := by rw [hp]; simp
      have nx : mvb s g x = false → wk iv L h0 (d + 3) 216 17 [lr 70, lr (A (s.1 16)), lr (A g), li ((a.length : Int) + (fl (sq (s.1 16) t)).length), li ((a.length : Int) + p.length + 1)] [] c (qi F) := fun hn => by
        have := ih (p ++ [x]) (by rw [hp]; simp) (by rw [List.any_cons, hn, Bool.false_or] at hF; exact hF)
        rw [List.length_append] at this
        simp only [List.length_cons, List.length_nil] at this
        push_cast at this
        rw [← Int.add_assoc] at this
        exact this
      have st : mvb s g x = true → F 1 c := fun hn => by
        rw [List.any_cons, hn, Bool.true_or, if_pos rfl] at hF
        exact hF
      refine C216_17 ⟨fun q => by omega, fun _ => ⟨k1, fun q => by omega, fun _ => ?_⟩⟩
      rw [k2, k3, k4, o4, o6, o7, o8]
      refine ⟨rfl, by omega, rfl, fun q3 => ⟨by omega, nx (by unfold mvb; rw [decide_eq_false q3, Bool.false_and])⟩, fun e3 => ?_⟩
      have hb0 := bds_in (nu := s.2 10) (x := s.2 10 x) hS o1
      have hb1 := bds_in (nu := s.2 10) (x := s.2 10 x) hS hg
      have nbg : (mvb s g x = decide (bds s g (s.2 10 x) ≠ bds s x (s.2 10 x))) → (kl c (A x) = 5) ∧ ck iv L h0 (d + 2) 56 [vr (A g), vi (fI c (A x) 4), vr 2, vi (-9)] c (qa fun r10 s9 => (r10 = 2 ∨ 64 ≤ r10) ∧ (A (bds s x (s.2 10 x)) = 2 ∨ 64 ≤ A (bds s x (s.2 10 x))) ∧ ((r10 = A (bds s x (s.2 10 x)) → (-2147483648 ≤ ((a.length : Int) + p.length) + 1 ∧ ((a.length : Int) + p.length) + 1 ≤ 2147483647) ∧ wk iv L h0 (d + 3) 216 17 [lr 70, lr (A (s.1 16)), lr (A g), li ((a.length : Int) + (fl (sq (s.1 16) t)).length), li ((a.length : Int) + p.length + 1)] [] s9 (qi F)) ∧ (r10 ≠ A (bds s x (s.2 10 x)) → F 1 s9))) := fun hr => by
        refine ⟨o6, ?_⟩
        rw [o8]
        refine nb0_ok hJ hg (hDP g hg) ⟨A64 h1.1.2.1 hS hb1, A64 h1.1.2.1 hS hb0, fun w => ⟨by omega, nx ?_⟩, fun w => st ?_⟩
        · rw [hr]
          exact decide_eq_false (fun z => z ((Ainj h1.1.2.1 hS hb1 hb0).mp w))
        · rw [hr]
          exact decide_eq_true (fun z => w ((Ainj h1.1.2.1 hS hb1 hb0).mpr z))
      refine nb0_ok hJ o1 (hDP x o1) ⟨fun q => nbg ?_, fun q => ⟨k1, ?_⟩⟩
      · have h9 : bds s x (s.2 10 x) = -9 := by
          rcases hb0 with w | w
          · exact w
          · exact absurd q (h1.1.2.1.ne (hS.m _ w)).1
        unfold mvb
        rw [decide_eq_true e3, decide_eq_true h9, Bool.true_or, Bool.true_and, Bool.true_and]
      · have hn9 : ¬ bds s x (s.2 10 x) = -9 := fun w => q (by
          show A (bds s x (s.2 10 x)) = 2
          rw [w]; exact A9 h1.1.2.1)
        have hbt : bds s x (s.2 10 x) ∈ fl t := hb0.resolve_left hn9
        have hw := wth_sq hS hT.2.2 hbt
        refine isWithin_c (d := d) h1 hS hT.2.2 hbt (fun w => ⟨fun _ => ⟨by omega, nx ?_⟩, fun v => absurd v (by decide)⟩) (fun w => ⟨fun v => absurd rfl v, fun _ => nbg ?_⟩)
        · have hwt := hw.mpr w
          unfold mvb
          rw [hwt, decide_eq_false hn9]
          simp
        · have hwf : wth7 s (bds s x (s.2 10 x)) (s.1 16) = false := by
            cases hq : wth7 s (bds s x (s.2 10 x)) (s.1 16) with
            | false => rfl
            | true => exact absurd (hw.mp hq) w
          unfold mvb
          rw [hwf, decide_eq_true e3, decide_eq_false hn9]
          simp
  refine C216 ⟨hkc, k1, sizeAt_c (d := d + 1) h1 hS hT.2.2 ⟨by omega, hkc, ?_⟩⟩
  rw [rx]
  have := key (fl (sq (s.1 16) t)) [] rfl hF
  simp only [List.length_nil] at this
  push_cast at this
  rw [Int.add_zero] at this
  exact this
theorem mem_rp0 {x : Int} {u : Term} : ∀ (t : Term) {z : Int}, z ∈ fl (rp x u t) → z ∈ fl t ∨ z ∈ fl u := by
  intro t
  induction t with
  | add t y ih ihy =>
    intro z hz
    have hz : z ∈ fl (rp x u t) ++ fl (if hd y = x then u else rp x u y) := hz
    rcases List.mem_append.mp hz with q | q
    · exact (ih q).imp (fun w => List.mem_append_left _ w) id
    · split at q
      · exact Or.inr q
      · exact (ihy q).imp (fun w => List.mem_append_right _ w) id
  | _ => intro z hz; exact Or.inl hz
theorem mem_rpT0 {x : Int} {u t : Term} {z : Int} (h : z ∈ fl (rpT x u t)) : z ∈ fl t ∨ z ∈ fl u := by
  unfold rpT at h
  split at h
  · exact Or.inr h
  · exact mem_rp0 t h
theorem move_c {g : Int} {F : Int → SC → Prop} (h1 : R1 A c s t) (hT : AFT s t) (hK : KIs s) (hKS : KSc A c K) (hKP : ∀ u, u ∈ K → KP s u) (hD : 310 ≤ d) (H1 : ¬ mvOk s t g → F (mvA s t g) c) (H2 : mvOk s t g → ∀ e, ACT A c s t K e (mvU s g) (mvT s t g) → F (mvA s t g) e) : ck iv L h0 d 18 [vr 64, vi g] c (qi F) := by
  obtain ⟨d, rfl⟩ : ∃ k, d = k + 1 + 3 := ⟨d - 4, by omega⟩
  obtain ⟨⟨d1, d2, d3, d4, d5⟩, e1, e2, e3, e4, e5, e6⟩ := h1.cur hT
  have hS := hT.1
  have hB := hS.2.2.2.2.1
  have hcb := hS.m _ hT.2.2
  refine C18 ?_
  rw [d3]
  refine ⟨d1, d2, find_c h1 hS (fun hg => ?_) (fun hg => ⟨fun q => absurd rfl q, fun _ => ?_⟩)⟩
  rotate_left
  · have := H1 (fun q => hg q.1)
    unfold mvA at this
    rw [if_neg hg] at this
    exact this
  have hgb := hS.m _ hg
  obtain ⟨⟨n1, n2, n3, n4, n5, n6, n7, n8⟩, n9, n10⟩ := h1.1.2.1.2 _ hgb.1 hgb.2
  have hw := wth_sq hS hT.2.2 hg
  have stt : mvSt s g → F (-4) c := fun q => by
    have := H1 (fun w => w.2.1 q)
    unfold mvA at this
    have q' : s.2 9 g ≠ 0 ∨ g = s.1 16 ∨ wth7 s g (s.1 16) = true := q
    rw [if_pos hg, if_pos q'] at this
    exact this
  rw [d3, e1, n1, n5]
  refine ⟨fun _ => ⟨d1, d2, rfl, fun q => stt (Or.inl q), fun q0 => isWithin_c (d := d + 1) h1 hS hT.2.2 hg (fun w => ⟨fun v => absurd v (by decide), fun _ => stt (Or.inr (Or.inr (hw.mpr w)))⟩) (fun w => ⟨fun _ => ⟨d1, by rw [d3]; exact d2, ?_⟩, fun v => absurd rfl v⟩)⟩, fun q => absurd q (h1.1.2.1.ne hgb).1⟩
  have hns : ¬ mvSt s g := fun q => by
    rcases q with q | q | q
    · exact q q0
    · refine w ?_
      rw [q]
      obtain ⟨b1, b2, b3, b4, b5, b6, b7⟩ := sq_ok hS.1 hS.2.1 hS.2.2.1 hT.2.2
      have := hd_mem _ b1
      rw [b3] at this
      exact this
    · exact w (hw.mp q)
  rw [d3]
  refine lacks_c h1.1.1 e5 hB (by omega) (fun hb => ⟨fun _ => ⟨d1, by rw [d3]; exact d2, ?_⟩, fun q => absurd rfl q⟩) (fun hb => ⟨fun q => absurd q (by decide), fun _ => ?_⟩)
  rotate_left
  · have := H1 (fun q => q.2.2.1 (by omega))
    unfold mvA at this
    have hns' : ¬ (s.2 9 g ≠ 0 ∨ g = s.1 16 ∨ wth7 s g (s.1 16) = true) := hns
    rw [if_pos hg, if_neg hns', if_pos (by omega)] at this
    exact this
  rw [d3]
  refine mcatch_ok h1 hT hg ?_
  have hns' : ¬ (s.2 9 g ≠ 0 ∨ g = s.1 16 ∨ wth7 s g (s.1 16) = true) := hns
  by_cases ha : (fl (sq (s.1 16) t)).any (mvb s g) = true
  · rw [if_pos ha]
    refine ⟨fun q => absurd q (by decide), fun _ => ?_⟩
    have := H1 (fun q => by rw [q.2.2.2] at ha; exact absurd ha (by decide))
    unfold mvA at this
    rw [if_pos hg, if_neg hns', if_neg (by omega), if_pos ha] at this
    exact this
  · rw [if_neg ha]
    have ha0 : (fl (sq (s.1 16) t)).any (mvb s g) = false := by
      cases h : (fl (sq (s.1 16) t)).any (mvb s g) with
      | false => rfl
      | true => exact absurd h ha
    have hok : mvOk s t g := ⟨hg, hns, by omega, ha0⟩
    have hA : mvA s t g = s.1 8 := by
      unfold mvA
      rw [if_pos hg, if_neg hns', if_neg (by omega), if_neg ha]
    have H3 := H2 hok
    rw [hA] at H3
    rw [d3]
    refine ⟨fun _ => ⟨d1, d2, rem_ok h1 hT hKS (fun c1 hO1 hK1 hx1 hr1 => ?_)⟩, fun q => absurd rfl q⟩
    have hX1 := hO1.1.1
    obtain ⟨a1, a2, a3, -⟩ := hX1.dk
    have b8 : fI c1 70 4 = s.1 8 := hO1.2.2.1.2.1
    rw [a3]
    refine ⟨a1, a2, born_c hX1 (by omega) (by omega) (fun c2 hb2 => ?_)⟩
    have hb2' : BORN c1 c2 0 (nvl 0 (-9)) (kvl 0 (-9)) := hb2
    obtain ⟨hO2, hnew, hE2⟩ := op_born hO1 hb2' (by omega) (by omega)
    obtain ⟨a1, a2, a3, -⟩ := hO2.1.1.dk
    rw [a3, ← hnew, ← hE2 (s.1 16) hcb.2, ← hE2 g hgb.2]
    have he := bornU_e (s := s) (so := 0) (v := -9) (k := -9)
    have hold := bornU_o (s := s) (so := 0) (v := -9) (k := -9)
    have b8' : (bornU s 0 (-9) (-9)).1 8 = s.1 8 + 1 := rfl
    refine ⟨a1, a2, repl_c hO2 hT.2.2 ⟨hB.1, by rw [b8']; omega⟩ (fun q => ?_) (fun c3 hO3 hx3 hr3 => ?_)⟩
    · rw [he.2 12 (by decide)] at q ⊢
      rw [he.2 13 (by decide)]
      have hu := pl_in hS hT.2.2 q
      have hum : s.2 12 (s.1 16) ∈ fl t := hS.up9 hT.2.2 (fun w => q (by rw [w]; exact hS.2.2.2.2.2.2.1))
      rw [(hold _ (hS.m _ hum).2).1.1]
      exact hu
    obtain ⟨a1, a2, a3, -⟩ := hO3.1.1.dk
    have hre := replU_e (s := bornU s 0 (-9) (-9)) (o := s.1 16) (c := s.1 8)
    have hri := replU_in (s1 := bornU s 0 (-9) (-9)) (b := s.1 8) hS hT.2.2 (by rw [he.2 12 (by decide)]) (by rw [he.2 13 (by decide)])
    have r8 : (replU (bornU s 0 (-9) (-9)) (s.1 16) (s.1 8)).1 8 = s.1 8 + 1 := (hre.1 8 (by decide)).trans b8'
    have r9o : ∀ x, x < s.1 8 → (replU (bornU s 0 (-9) (-9)) (s.1 16) (s.1 8)).2 9 x = s.2 9 x := fun x hx => by rw [hre.2 9 (by decide)]; exact (hold x hx).1.1
    have rg : (replU (bornU s 0 (-9) (-9)) (s.1 16) (s.1 8)).2 12 g = s.2 12 g ∧ (replU (bornU s 0 (-9) (-9)) (s.1 16) (s.1 8)).2 13 g = s.2 13 g := by
      have := hri.2.2.2.1 g (by omega)
      rw [this.1, this.2, he.2 12 (by decide), he.2 13 (by decide)]
      exact ⟨rfl, rfl⟩
    rw [a3]
    refine ⟨a1, a2, repl_c hO3 (o := g) (Or.inl hg) (y := s.1 16) ⟨hcb.1, by rw [r8]; omega⟩ (fun q => ?_) (fun c4 hO4 hx4 hr4 => ⟨hO4.1.1.dk.1, ?_⟩)⟩
    · rw [rg.1] at q ⊢
      rw [rg.2]
      have hu := pl_in hS hg q
      have hum : s.2 12 g ∈ fl t := hS.up9 hg (fun w => q (by rw [w]; exact hS.2.2.2.2.2.2.1))
      rw [r9o _ (hS.m _ hum).2]
      exact hu
    have hre2 := replU_e (s := replU (bornU s 0 (-9) (-9)) (s.1 16) (s.1 8)) (o := g) (c := s.1 16)
    have hAft := mv_aft hT hok
    have h353 := h1.1.1.2.2.1
    have hcur : fR c4 70 2 = A1 A (s.1 8) (nxt c1) (s.1 16) := by
      rw [hx4.r (a := 70) (by have := hO3.1.1.2.2.1; omega) (by rw [a2]; decide), hx3.r (a := 70) (by have := hO2.1.1.2.2.1; omega) (by rw [hO2.1.1.dk.2.1]; decide), hb2.1.r (a := 70) (by have := hX1.2.2.1; omega) (by rw [hX1.dk.2.1]; decide), hx1.r (a := 70) (by omega) (by rw [d2]; decide), hE2 _ hcb.2]
      exact e1
    have mem : ∀ x, x ∈ fl (mvT s t g) → x ∈ fl t ∨ x = s.1 8 := fun x hx => by
      unfold mvT at hx
      rcases mem_rpT0 hx with q | q
      · rcases mem_rpT0 q with w | w
        · exact Or.inl w
        · right
          have := List.mem_singleton.mp w
          omega
      · obtain ⟨b1, b2, b3, b4, b5, b6, b7⟩ := sq_ok hS.1 hS.2.1 hS.2.2.1 hT.2.2
        exact Or.inl (b4 x q)
    have e16 : (mvU s g).1 16 = s.1 16 := by
      show (replU (replU (bornU s 0 (-9) (-9)) (s.1 16) (s.1 8)) g (s.1 16)).1 16 = s.1 16
      rw [hre2.1 16 (by decide), hre.1 16 (by decide)]
      rfl
    refine changed0_ok hO4 (by show _ = A1 A (s.1 8) (nxt c1) ((mvU s g).1 16); rw [e16]; exact hcur) hAft (KIs_q (KIs_q (KIs_q hK he (by decide) (by decide)) hre (by decide) (by decide)) hre2 (by decide) (by decide)) (fun x hx => ?_) (fun x i hx i0 i1 => ?_) (by omega) (fun e g1 g2 g3 g4 => ?_)
    · rcases mem x hx with q | q
      · exact Or.inl (Or.inl q)
      · exact Or.inl (Or.inr q)
    · rw [hre2.2 9 (by decide)] at i1
      rcases mem x hx with q | q
      · rw [r9o x (hS.m _ q).2] at i1
        exact Or.inl (Or.inl ⟨q, i0, i1⟩)
      · exfalso
        rw [q, hre.2 9 (by decide), (bornU_at (s := s) (so := 0) (v := -9) (k := -9)).1] at i1
        have : pO 0 = 0 := by decide
        omega
    · obtain ⟨n1, n4⟩ := ans_b g1 (y := s.1 8) ⟨hB.1, by rw [hre2.1 8 (by decide), r8]; omega⟩
      refine ⟨n1, ?_⟩
      rw [n4]
      have r2 : RMk 2 16 c1 c2 := ⟨by have := hb2.2.1.1; omega, hb2.2.1.2⟩
      refine H3 e ⟨A1 A (s.1 8) (nxt c1), g1, hE2, (cxa_k hx1).tr ((cxa_b hb2.1).tr ((cxa_l hx3).tr ((cxa_l hx4).tr (cxa_t g2)))), ((((hr1.tr r2).tr hr3).tr hr4).tr g3).up (by decide) (by decide), ?_, g4, (((((NWc.rf).x h353 hx1 hr1 (by decide)).b h353 hb2).x h353 hx3 hr3 (by decide)).x h353 hx4 hr4 (by decide)).x h353 g2 g3 (by decide)⟩
      exact hK1.x hX1 hE2 hB.1 (kp_push hKP hT) ((hb2.1.up (ys' := [(8, 4)] ++ (lys ++ tyY)) (rs' := [1103] ++ srs) (by decide) (fun _ q => by cases q)).tr ((hx3.up (by decide) (by decide)).tr ((hx4.up (by decide) (by decide)).tr (g2.up (by decide) (by decide))))) (by decide) (by decide)
end
end
section
/-! undo() by the desk; states that agree. -/
section
variable {iv : List (Int × Int)} {L : Nat} {h0 : MH} {A A' : Int → Nat} {c e : SC} {s s' w : SM} {t : Term} {d : Nat} {P : Int → Prop} {Q : Int → Int → Prop} {K : List Snap}
/-- the link stands for all states that agree -/
theorem R1_cg (h : R1 A c s t) (hS : SHT s t) (hS' : SHT w t) (hB : NB s) (hK : KIs s) (h8 : w.1 8 = s.1 8) (h16 : w.1 16 = s.1 16) (h2 : w.1 2 = s.1 2) (hr : ∀ x, 0 ≤ x → x < s.1 8 → w.2 9 x = s.2 9 x ∧ w.2 10 x = s.2 10 x ∧ w.2 11 x = s.2 11 x) (hk : ∀ k, 0 ≤ k → k < s.1 2 → w.2 4 k = s.2 4 k ∧ w.2 5 k = s.2 5 k ∧ w.2 6 k = s.2 6 k ∧ w.2 7 k = s.2 7 k) : R1 A c w t := by
  obtain ⟨⟨hX, hN, hH, hL⟩, ⟨hc, hb8⟩, hI, hJ⟩ := h
  have hjd : jdg w t = jdg s t := jdg_un hS.w hS'.w (fun x hx => hr x (hS.m _ hx).1 (hS.m _ hx).2) (fun x hx q => by
    have hq := (hB x (hS.m _ hx).1 (hS.m _ hx).2).2.2.2 q
    rw [kks_told hq, kks_told (by rw [h2]; exact hq)]
    exact kt_lt hK (fun k k0 kn => ⟨(hk k k0 kn).1, (hk k k0 kn).2.1, (hk k k0 kn).2.2.1⟩) _ hq.1 hq.2)
  refine ⟨⟨hX, ⟨fun b hb => hN.1 b (by rw [h8] at hb; exact hb), fun b b0 b1 => ?_⟩, ⟨fun x hx => ?_, hH.2⟩, hL⟩, ⟨by rw [h16]; exact hc, by rw [h8]; exact hb8⟩, ⟨by rw [h2]; exact hI.1, fun k k0 kn => ?_⟩, ?_⟩
  · rw [h8] at b1
    obtain ⟨e1, e2, e3⟩ := hr b b0 b1
    rw [e1, e2, e3]
    exact hN.2 b b0 b1
  · obtain ⟨q1, q2, q3⟩ := hH.1 x hx
    obtain ⟨u1, u2⟩ := hS.w.ul hS'.w hx
    have e9 := (hr x (hS.m _ hx).1 (hS.m _ hx).2).1
    rw [u1, u2, e9]
    exact ⟨q1, q2, fun i i0 i1 => by rw [hS.w.pa hS'.w hx i0 i1]; exact q3 i i0 i1⟩
  · rw [h2] at kn
    obtain ⟨e1, e2, e3, e4⟩ := hk k k0 kn
    rw [e1, e2, e3, e4]
    exact hI.2 k k0 kn
  · unfold JUc
    rw [hjd]
    exact hJ
theorem R1_sx {ey ef : List Nat} (h : R1 A c s t) (hS : SHT s t) (hS' : SHT w t) (hB : NB s) (hK : KIs s) (hx : SX ey ef s w) (hy : 2 ∉ ey ∧ 8 ∉ ey ∧ 16 ∉ ey) (hf : 4 ∉ ef ∧ 5 ∉ ef ∧ 6 ∉ ef ∧ 7 ∉ ef ∧ 9 ∉ ef ∧ 10 ∉ ef ∧ 11 ∉ ef) : R1 A c w t := by
  have h8 := hS.2.2.2.2.1
  have hn := hK.1
  refine R1_cg h hS hS' hB hK (hx.1 8 (by decide) hy.2.1) (hx.1 16 (by decide) hy.2.2) (hx.1 2 (by decide) hy.1) (fun x x0 x1 => ?_) (fun k k0 kn => ?_)
  · exact ⟨hx.2 9 (by decide) hf.2.2.2.2.1 x (by unfold scI; omega), hx.2 10 (by decide) hf.2.2.2.2.2.1 x (by unfold scI; omega), hx.2 11 (by decide) hf.2.2.2.2.2.2 x (by unfold scI; omega)⟩
  · exact ⟨hx.2 4 (by decide) hf.1 k (by unfold scI; omega), hx.2 5 (by decide) hf.2.1 k (by unfold scI; omega), hx.2 6 (by decide) hf.2.2.1 k (by unfold scI; omega), hx.2 7 (by decide) hf.2.2.2.1 k (by unfold scI; omega)⟩
def topU (s : SM) (y : Int) : SM := ua (ua (us s 15 y) 12 y (-9)) 13 y (-9)
theorem topU_2 (s : SM) (y : Int) (f : Nat) (b : Int) : (topU s y).2 f b = if (f = 12 ∨ f = 13) ∧ b = y then -9 else s.2 f b := by
  show (if f = 13 ∧ b = y then (-9 : Int) else if f = 12 ∧ b = y then -9 else s.2 f b) = _
  by_cases a1 : f = 13 ∧ b = y
  · rw [if_pos a1, if_pos ⟨Or.inr a1.1, a1.2⟩]
  · rw [if_neg a1]
    by_cases a2 : f = 12 ∧ b = y
    · rw [if_pos a2, if_pos ⟨Or.inl a2.1, a2.2⟩]
    · rw [if_neg a2, if_neg (fun q => q.1.elim (fun w => a2 ⟨w, q.2⟩) (fun w => a1 ⟨w, q.2⟩))]
theorem op_top {y : Int} (h : OP A c s P Q) (hy : 0 ≤ y ∧ y < s.1 8) : OP A (uR (uR c (A y) 5 2) 70 1 (A y)) (topU s y) (fun b => P b ∨ b = y) Q ∧ CX lys [] c (uR (uR c (A y) 5 2) 70 1 (A y)) := by
  obtain ⟨⟨hX, hN, hI⟩, ⟨hL, hP⟩, ⟨ht, h8, ht0, ht8⟩, hKI, hB⟩ := h
  obtain ⟨⟨m1, m2, m3, m4, m5, m6, m7, m8⟩, m9, m10⟩ := hN.2 y hy.1 hy.2
  have hk := hX.dk
  have n70 : A y ≠ 70 := fun q => by rw [q, hk.2.1] at m1; omega
  have hx1 : CX lys [] c (uR (uR c (A y) 5 2) 70 1 (A y)) := by
    refine CX.uR (CX.uR CX.rf (fun _ => ?_)) (fun _ => ?_)
    · rw [ky5 m10, m1]; decide
    · rw [kl_uR, hk.2.1]; decide
  have o : ∀ f, f ≠ 12 → f ≠ 13 → (topU s y).2 f = s.2 f := fun f f1 f2 => funext fun b => by rw [topU_2, if_neg (by omega)]
  have o1 : ∀ f, f ≠ 15 → (topU s y).1 f = s.1 f := fun f f1 => by show (if f = 15 then y else s.1 f) = _; rw [if_neg f1]
  have ne : ∀ b, b ≠ y → A b ≠ A y := fun b hb q => hb (hN.inj hy q)
  refine ⟨⟨⟨hX.x hx1 (by decide) (by decide), ?_, ⟨fun b hb => ?_, fun b j hb => ?_⟩⟩, ⟨fun b hb => ?_, fun b j hb => ?_⟩, ⟨?_, ?_, ?_, ?_⟩, ?_, hB⟩, hx1⟩
  · have := hN.x hx1 (by decide) (by decide) (by decide) (by decide) (by decide)
    unfold ND at this ⊢
    rw [o 9 (by decide) (by decide), o 10 (by decide) (by decide), o 11 (by decide) (by decide), o1 8 (by decide)]
    exact this
  · rw [o1 8 (by decide), topU_2]
    by_cases q : b = y
    · subst q; rw [if_pos ⟨Or.inl rfl, rfl⟩]; exact ⟨hy, Or.inl rfl⟩
    · rw [if_neg (fun w => q w.2)]; exact hI.1 b (hb.resolve_right q)
  · rw [o1 8 (by decide), o 9 (by decide) (by decide), o 14 (by decide) (by decide)]
    exact hI.2 b j hb
  · rw [fR_uR, if_neg (by omega), fR_uR, topU_2, topU_2]
    by_cases q : b = y
    · subst q
      rw [if_pos ⟨rfl, rfl⟩, if_pos ⟨Or.inl rfl, rfl⟩]
      exact ⟨(A9 hN).symm, fun w => absurd rfl w⟩
    · rw [if_neg (fun w => ne b q w.2), if_neg (fun w => q w.2), if_neg (fun w => q w.2)]
      exact hL b (hb.resolve_right q)
  · rw [o 14 (by decide) (by decide)]
    exact hP b j hb
  · rw [fR_uR, if_pos ⟨rfl, rfl⟩]
    rfl
  · rw [o1 8 (by decide)]; exact h8
  · exact hy.1
  · rw [o1 8 (by decide)]; exact hy.2
  · unfold KIc
    rw [o1 2 (by decide), o 4 (by decide) (by decide), o 5 (by decide) (by decide), o 6 (by decide) (by decide), o 7 (by decide) (by decide)]
    exact hKI
def uyY : List (Nat × Nat) := (5, 4) :: (5, 12) :: lys
/-- what a thing that was kept looks like as a sheet -/
def unS (s : SM) (u : Snap) : SM := ((undU s u).1, fun f => if f = 12 ∨ f = 13 ∨ f = 14 then u.2.2 f else (undU s u).2 f)
/-- bringing back: so far -/
def BB (s st : SM) (u : Snap) (p : List Int) : Prop := eqx [15] [10, 12, 13, 14] s st ∧ (∀ y, st.2 10 y = if y ∈ p then u.2.2 10 y else s.2 10 y) ∧ (∀ x, x ∈ p → st.2 12 x = u.2.2 12 x ∧ (x ≠ hd u.1 → st.2 13 x = u.2.2 13 x ∧ st.2 14 (3 * u.2.2 12 x + u.2.2 13 x) = x)) ∧ (hd u.1 ∈ p → st.1 15 = hd u.1)
/-- fillers: gone at these, else as they were or gone -/
def FL2 (A : Int → Nat) (c f : SC) (p : List Int) : Prop := (∀ x, x ∈ p → fR f (A x) 12 = 2) ∧ ∀ a, a < nxt c → fR f a 12 = fR c a 12 ∨ fR f a 12 = 2
theorem bring_ok {u : Snap} {i : Nat} {F : SC → Prop} (hi : i < 20) (hO : OP A c s (fun _ => False) (fun _ _ => False)) (hK : KP s u) (hS : SNc A c (75 + 5 * i) u) (hF : ∀ e st, OP A e st (fun x => x ∈ fl u.1) (fun b j => ∃ x, x ∈ fl u.1 ∧ x ≠ hd u.1 ∧ b = u.2.2 12 x ∧ j = u.2.2 13 x) → BB s st u (fl u.1) → FL2 A c e (fl u.1) → CX uyY [1103] c e → RMk 0 0 c e → F (uR e 70 2 (A (u.2.1 16)))) : ck iv L h0 (d + 1) 223 [vr (75 + 5 * i), vr 70] c (qv F) := by
  obtain ⟨⟨p1, p2, p3, p4⟩, p5, p6, p7, p8⟩ := hK
  have hB8 := hO.2.2.2.2
  have key : ∀ (m p : List Int) (f : SC) (st : SM), fl u.1 = p ++ m → OP A f st (fun x => x ∈ p) (fun b j => ∃ x, x ∈ p ∧ x ≠ hd u.1 ∧ b = u.2.2 12 x ∧ j = u.2.2 13 x) → BB s st u p → FL2 A c f p → CX uyY [1103] c f → RMk 0 0 c f → wk iv L h0 (d + 1) 223 2 [lr (75 + 5 * i), lr 70, li p.length] [] f (qv F) := by
    intro m
    induction m with
    | nil =>
      intro p f st hp hOf hBB hfl hx hr
      obtain ⟨o1, o2, ⟨o3, o4, o5, o6⟩, ⟨o7, o8, o9, o10⟩, o11, o12, o13, o14⟩ := hOf.1.1.2.1.1 i hi
      obtain ⟨c1, c2, ⟨c3, c4, c5, c6⟩, ⟨c7, c8, c9, c10⟩, c11, c12, c13, c14⟩ := hO.1.1.2.1.1 i hi
      have h353 := hO.1.1.2.2.1
      have hky : ky (75 + 5 * i) (kl c (75 + 5 * i)) = 9 := by rw [c2]; unfold ky; rw [if_neg (by omega)]
      have e4 : fI f (75 + 5 * i) 4 = (fl u.1).length := by rw [hx.i (by omega) (by rw [hky]; decide)]; exact hS.1.1
      have e5 : fR f (75 + 5 * i) 5 = A (u.2.1 16) := by rw [hx.r (by omega) (by rw [hky]; decide)]; exact hS.1.2
      rw [List.append_nil] at hp
      refine C223_2 ⟨o2, fun _ => ⟨hOf.1.1.dk.2.1, ?_⟩, fun q => ?_⟩
      · rw [e5]
        rw [← hp] at hOf hBB hfl
        exact hF f st hOf hBB hfl hx hr
      · rw [e4, hp] at q; omega
    | cons x m ih =>
      intro p f st hp hOf hBB hfl hx hr
      obtain ⟨o1, o2, ⟨o3, o4, o5, o6⟩, ⟨o7, o8, o9, o10⟩, o11, o12, o13, o14⟩ := hOf.1.1.2.1.1 i hi
      obtain ⟨c1, c2, ⟨c3, c4, c5, c6⟩, ⟨c7, c8, c9, c10⟩, c11, c12, c13, c14⟩ := hO.1.1.2.1.1 i hi
      have h353 := hO.1.1.2.2.1
      have hky : ky (75 + 5 * i) (kl c (75 + 5 * i)) = 9 := by rw [c2]; unfold ky; rw [if_neg (by omega)]
      have e4 : fI f (75 + 5 * i) 4 = (fl u.1).length := by rw [hx.i (by omega) (by rw [hky]; decide)]; exact hS.1.1
      have hxm : x ∈ fl u.1 := by rw [hp]; simp
      have hget : (fl u.1)[p.length]? = some x := by rw [hp]; simp
      have hlen : (fl u.1).length = p.length + (m.length + 1) := by rw [hp]; simp
      have hxB := (AT_mem u.1 p1 x hxm).1
      have e8 : st.1 8 = s.1 8 := hBB.1.1 8 (by decide)
      have e9 : st.2 9 = s.2 9 := hBB.1.2 9 (by decide)
      have hxst : 0 ≤ x ∧ x < st.1 8 := by rw [e8]; exact hxB
      obtain ⟨q1, q2, q3, q4⟩ := hS.2 p.length x hget
      have row : ∀ a, 75 < a → a < 175 → aI f a = aI c a ∧ aR f a = aR c a := fun a a1 a2 => by
        have hq : rk a (kl c a) ∉ [1103] := by unfold rk; rw [if_pos (by omega)]; simp; omega
        exact ⟨hx.ai (by omega) hq, hx.ar (by omega) hq⟩
      have r1 : aR f (76 + 5 * i) (p.length : Int) = A x := by rw [(row _ (by omega) (by omega)).2, ← q1, show 75 + 5 * i + 1 = 76 + 5 * i by omega]
      have r2 : aR f (77 + 5 * i) (p.length : Int) = A (u.2.2 12 x) := by rw [(row _ (by omega) (by omega)).2, ← q2, show 75 + 5 * i + 2 = 77 + 5 * i by omega]
      have r3 : x ≠ hd u.1 → aI f (78 + 5 * i) (p.length : Int) = u.2.2 13 x := fun q => by rw [(row _ (by omega) (by omega)).1, ← q3 q, show 75 + 5 * i + 3 = 78 + 5 * i by omega]
      have r4 : aI f (79 + 5 * i) (p.length : Int) = u.2.2 10 x := by rw [(row _ (by omega) (by omega)).1, ← q4, show 75 + 5 * i + 4 = 79 + 5 * i by omega]
      obtain ⟨⟨n1, n2, n3, n4, n5, n6, n7, n8⟩, n9, n10⟩ := hOf.1.2.1.2 x hxst.1 hxst.2
      have hxp : x ∉ p := fun q => by
        rw [hp] at p3
        exact (List.nodup_append.mp p3).2.2 x q x (by simp) rfl
      -- number and filler
      obtain ⟨hO1, hx1⟩ := op_v (v := u.2.2 10 x) hOf hxst
      have hx2 : CX [(5, 12)] [] (uI f (A x) 4 (u.2.2 10 x)) (uR (uI f (A x) 4 (u.2.2 10 x)) (A x) 12 2) := CX.rf.uR (fun _ => by rw [kl_uI, ky5 n10, n1]; decide)
      have hO2 := op_x hO1 hx2 (by decide) (by decide) (by decide) (by decide) ⟨by decide, by decide, by decide, by decide⟩ ⟨by decide, by decide, by decide, by decide⟩
      have hxg : CX uyY [1103] c (uR (uI f (A x) 4 (u.2.2 10 x)) (A x) 12 2) := hx.tr ((hx1.up (by decide) (fun _ q => by cases q)).tr (hx2.up (by decide) (fun _ q => by cases q)))
      have hflg : FL2 A c (uR (uI f (A x) 4 (u.2.2 10 x)) (A x) 12 2) (p ++ [x]) := ⟨fun y hy => by
        rw [fR_uR]
        by_cases q : A y = A x
        · rw [if_pos ⟨rfl, q⟩]
        · rw [if_neg (fun w => q w.2), fR_uI]
          rcases List.mem_append.mp hy with w | w
          · exact hfl.1 y w
          · exact absurd (by rw [List.mem_singleton.mp w]) q, fun a ha => by
        rw [fR_uR]
        by_cases q : a = A x
        · rw [if_pos ⟨rfl, q⟩]; exact Or.inr rfl
        · rw [if_neg (fun w => q w.2), fR_uI]
          exact hfl.2 a ha⟩
      generalize hg : uR (uI f (A x) 4 (u.2.2 10 x)) (A x) 12 2 = g at hO2 hxg hflg
      have b10 : ∀ y, (ua st 10 x (u.2.2 10 x)).2 10 y = if y ∈ p ++ [x] then u.2.2 10 y else s.2 10 y := fun y => by
        show (if (10 : Nat) = 10 ∧ y = x then u.2.2 10 x else st.2 10 y) = _
        by_cases q : y = x
        · subst q; rw [if_pos ⟨rfl, rfl⟩, if_pos (by simp)]
        · rw [if_neg (fun w => q w.2), hBB.2.1]
          by_cases q2 : y ∈ p
          · rw [if_pos q2, if_pos (List.mem_append_left _ q2)]
          · rw [if_neg q2, if_neg (fun w => (List.mem_append.mp w).elim q2 (fun w => q (List.mem_singleton.mp w)))]
      have oo : ∀ f, f ≠ 10 → (ua st 10 x (u.2.2 10 x)).2 f = st.2 f := fun f hf => by
        funext y
        show (if f = 10 ∧ y = x then u.2.2 10 x else st.2 f y) = st.2 f y
        rw [if_neg (fun w => hf w.1)]
      have hexq : eqx [15] [10, 12, 13, 14] s (ua st 10 x (u.2.2 10 x)) := eqx_ua hBB.1 (by decide)
      have nx : ∀ (f' : SC) (st' : SM), OP A f' st' (fun y => y ∈ p ++ [x]) (fun b j => ∃ y, y ∈ p ++ [x] ∧ y ≠ hd u.1 ∧ b = u.2.2 12 y ∧ j = u.2.2 13 y) → BB s st' u (p ++ [x]) → FL2 A c f' (p ++ [x]) → CX uyY [1103] c f' → RMk 0 0 c f' → wk iv L h0 (d + 1) 223 2 [lr (75 + 5 * i), lr 70, li ((p.length : Int) + 1)] [] f' (qv F) := fun f' st' a1 a2 a5 a3 a4 => by
        have := ih (p ++ [x]) f' st' (by rw [hp]; simp) a1 a2 a5 a3 a4
        rw [List.length_append] at this
        simp only [List.length_cons, List.length_nil] at this
        push_cast at this
        exact this
      have hrg : RMk 0 0 c g := by rw [← hg]; exact hr
      have keep : ∀ {f' : SC} {rs : List Nat}, CX lys rs g f' → FL2 A c f' (p ++ [x]) := fun hx3 => ⟨fun y hy => by
        have hyB : 0 ≤ y ∧ y < s.1 8 := by
          have : y ∈ fl u.1 := by
            rw [hp]
            rcases List.mem_append.mp hy with w | w
            · exact List.mem_append_left _ w
            · rw [List.mem_singleton.mp w]; simp
          exact (AT_mem u.1 p1 y this).1
        obtain ⟨⟨z1, z2, z3, z4, z5, z6, z7, z8⟩, z9, z10⟩ := hO2.1.2.1.2 y hyB.1 (by show y < st.1 8; rw [e8]; exact hyB.2)
        rw [hx3.r (by omega) (by rw [ky5 z10, z1]; decide)]
        exact hflg.1 y hy, fun a ha => by
        rw [hx3.r (Nat.lt_of_lt_of_le ha hxg.n) (by unfold lys; simp)]
        exact hflg.2 a ha⟩
      refine C223_2 ⟨o2, fun q => by rw [e4] at q; omega, fun _ => ?_⟩
      rw [o3, o4, o5, o6, o7, o8, o9, o10, o11, o12, o13, o14, r1, r2, r4, n1, hg]
      refine ⟨rfl, by omega, rfl, by omega, rfl, rfl, by omega, fun hnn => ?_, fun hnn => ?_⟩
      · have hxh : x ≠ hd u.1 := fun q => hnn (by rw [q, p6]; exact A9 hO.1.2.1)
        have m := (AT_mem u.1 p1 x hxm).2.2.2 hxh
        have hu := (AT_mem u.1 p1 _ m.1).1
        have hust : 0 ≤ u.2.2 12 x ∧ u.2.2 12 x < (ua st 10 x (u.2.2 10 x)).1 8 := by show _ ∧ _ < st.1 8; rw [e8]; exact hu
        have hku := (hOf.1.2.1.2 _ hust.1 hust.2).1.1
        rw [r3 hxh]
        refine ⟨rfl, by omega, hku, hang_c hO2 hust hxst ?_ (fun f' hO3 hx3 hr3 => ⟨by omega, nx f' _ (op_mo hO3 (fun y hy => ?_) (fun b j hb => ?_)) ⟨?_, fun y => ?_, fun y hy => ?_, fun hh => ?_⟩ (keep hx3) (hxg.tr (hx3.up (by decide) (by decide))) (hrg.tr hr3)⟩)⟩
        · rw [oo 9 (by decide), e9]; exact m.2.1
        · rcases List.mem_append.mp hy with q | q
          · exact Or.inl q
          · exact Or.inr (List.mem_singleton.mp q)
        · obtain ⟨y, y1, y2, y3, y4⟩ := hb
          rcases List.mem_append.mp y1 with q | q
          · exact Or.inl ⟨y, q, y2, y3, y4⟩
          · rw [List.mem_singleton.mp q] at y3 y4
            exact Or.inr ⟨y3, y4⟩
        · exact hexq.tr (partU_e.up (fun _ q => by cases q) (fun y q => by simp at q ⊢; omega))
        · rw [(partU_e (s := ua st 10 x (u.2.2 10 x)) (b := u.2.2 12 x) (i := u.2.2 13 x) (c := x)).2 10 (by decide)]
          exact b10 y
        · have v12 : ∀ z, (partU (ua st 10 x (u.2.2 10 x)) (u.2.2 12 x) (u.2.2 13 x) x).2 12 z = if z = x then u.2.2 12 x else st.2 12 z := fun z => by
            show (if (12 : Nat) = 13 ∧ z = x then u.2.2 13 x else if (12 : Nat) = 12 ∧ z = x then u.2.2 12 x else if (12 : Nat) = 14 ∧ z = 3 * u.2.2 12 x + u.2.2 13 x then x else if (12 : Nat) = 10 ∧ z = x then u.2.2 10 x else st.2 12 z) = _
            simp
          have v13 : ∀ z, (partU (ua st 10 x (u.2.2 10 x)) (u.2.2 12 x) (u.2.2 13 x) x).2 13 z = if z = x then u.2.2 13 x else st.2 13 z := fun z => by
            show (if (13 : Nat) = 13 ∧ z = x then u.2.2 13 x else if (13 : Nat) = 12 ∧ z = x then u.2.2 12 x else if (13 : Nat) = 14 ∧ z = 3 * u.2.2 12 x + u.2.2 13 x then x else if (13 : Nat) = 10 ∧ z = x then u.2.2 10 x else st.2 13 z) = _
            simp
          have v14 : ∀ z, (partU (ua st 10 x (u.2.2 10 x)) (u.2.2 12 x) (u.2.2 13 x) x).2 14 z = if z = 3 * u.2.2 12 x + u.2.2 13 x then x else st.2 14 z := fun z => by
            show (if (14 : Nat) = 13 ∧ z = x then u.2.2 13 x else if (14 : Nat) = 12 ∧ z = x then u.2.2 12 x else if (14 : Nat) = 14 ∧ z = 3 * u.2.2 12 x + u.2.2 13 x then x else if (14 : Nat) = 10 ∧ z = x then u.2.2 10 x else st.2 14 z) = _
            simp
          rw [v12, v13, v14]
          rcases List.mem_append.mp hy with q | q
          · have hyx : y ≠ x := fun w => hxp (by rw [← w]; exact q)
            obtain ⟨g1, g2⟩ := hBB.2.2.1 y q
            rw [if_neg hyx, if_neg hyx]
            refine ⟨g1, fun w => ⟨(g2 w).1, ?_⟩⟩
            rw [if_neg (fun z => ?_)]
            · exact (g2 w).2
            · have hym : y ∈ fl u.1 := by rw [hp]; exact List.mem_append_left _ q
              have my := (AT_mem u.1 p1 y hym).2.2.2 w
              rw [← m.2.2, ← z, my.2.2] at hyx
              exact hyx rfl
          · have hyx := List.mem_singleton.mp q
            subst hyx
            rw [if_pos rfl, if_pos rfl, if_pos rfl]
            exact ⟨rfl, fun _ => ⟨rfl, rfl⟩⟩
        · rcases List.mem_append.mp hh with q | q
          · exact hBB.2.2.2 q
          · exact absurd (List.mem_singleton.mp q).symm hxh
      · have hxh : x = hd u.1 := by
          by_cases q : x = hd u.1
          · exact q
          · have m := (AT_mem u.1 p1 x hxm).2.2.2 q
            have hu := (AT_mem u.1 p1 _ m.1).1
            exact absurd hnn (hO.1.2.1.ne hu).1
        obtain ⟨hO3, hx3⟩ := op_top hO2 hxst
        refine ⟨hOf.1.1.dk.2.1, by omega, nx _ _ (op_mo hO3 (fun y hy => ?_) (fun b j hb => ?_)) ⟨?_, fun y => ?_, fun y hy => ?_, fun hh => ?_⟩ (keep hx3) (hxg.tr (hx3.up (by decide) (fun _ q => by cases q))) hrg⟩
        · rcases List.mem_append.mp hy with q | q
          · exact Or.inl q
          · exact Or.inr (List.mem_singleton.mp q)
        · obtain ⟨y, y1, y2, y3, y4⟩ := hb
          rcases List.mem_append.mp y1 with q | q
          · exact ⟨y, q, y2, y3, y4⟩
          · exact absurd ((List.mem_singleton.mp q).trans hxh) y2
        · exact eqx_ua (eqx_ua (eqx_us hexq (by decide)) (by decide)) (by decide)
        · rw [topU_2, if_neg (by omega)]
          exact b10 y
        · rw [topU_2, topU_2, topU_2]
          rcases List.mem_append.mp hy with q | q
          · have hyx : y ≠ x := fun w => hxp (by rw [← w]; exact q)
            rw [if_neg (fun w => hyx w.2), if_neg (fun w => hyx w.2), if_neg (by omega)]
            exact hBB.2.2.1 y q
          · have hyx := List.mem_singleton.mp q
            subst hyx
            rw [if_pos ⟨Or.inl rfl, rfl⟩]
            refine ⟨?_, fun w => absurd hxh w⟩
            rw [hxh]; exact p6.symm
        · show x = hd u.1
          exact hxh
  refine C223 ?_
  have h0' : OP A c s (fun x => x ∈ ([] : List Int)) (fun b j => ∃ x, x ∈ ([] : List Int) ∧ x ≠ hd u.1 ∧ b = u.2.2 12 x ∧ j = u.2.2 13 x) := op_mo hO (fun x q => by cases q) (fun b j q => by obtain ⟨x, q, -⟩ := q; cases q)
  exact key (fl u.1) [] c s rfl h0' ⟨eqx.rf, (fun y => by rw [if_neg (by simp)]), (fun x q => by cases q), (fun q => by cases q)⟩ ⟨fun x q => (by cases q), fun a _ => Or.inl rfl⟩ CX.rf RMk.rf
end
end
section
/-! undo() by the desk, whole. -/
def unY : List (Nat × Nat) := (5, 12) :: acY
def UND (A : Int → Nat) (c : SC) (s : SM) (e : SC) (u : Snap) (K0 : List Snap) : Prop := R1 A e (unS s u) u.1 ∧ CX unY acR c e ∧ RMk 0 0 c e ∧ KSc A e K0 ∧ fI e 64 15 = 1 ∧ FL2 A c e (fl u.1)
section
variable {iv : List (Int × Int)} {L : Nat} {h0 : MH} {A A' : Int → Nat} {c e : SC} {s s' w : SM} {t : Term} {d : Nat} {P : Int → Prop} {Q : Int → Int → Prop} {K : List Snap}
theorem mod19 {n : Int} (h0 : 0 ≤ n) (h1 : n < 20) : (n + 20 - 1).tdiv 20 = (if n = 0 then 0 else 1) ∧ (n + 20 - 1) - (n + 20 - 1).tdiv 20 * 20 = if n = 0 then 19 else n - 1 := by
  have e : (n + 20 - 1).tdiv 20 = (n + 20 - 1) / 20 := Int.tdiv_eq_ediv_of_nonneg (by omega)
  rw [e]
  by_cases q : n = 0
  · subst q; decide
  · rw [if_neg q, if_neg q]; omega
theorem unS_sht {u : Snap} (hK : KP s u) (hB : 0 ≤ s.1 8 ∧ s.1 8 ≤ 3000) : SHT (unS s u) u.1 := by
  obtain ⟨⟨p1, p2, p3, p4⟩, p5, p6, p7, p8⟩ := hK
  have e9 : (unS s u).2 9 = s.2 9 := by
    funext y
    show (if (9 : Nat) = 10 ∧ y ∈ fl u.1 then u.2.2 10 y else s.2 9 y) = s.2 9 y
    rw [if_neg (by omega)]
  refine ⟨?_, ?_, p3, p4, hB, rfl, p6, p7⟩
  · show AT ((unS s u).2 9) (u.2.2 14) (u.2.2 12) (u.2.2 13) (s.1 8) u.1
    rw [e9]; exact p1
  · show full ((unS s u).2 9) u.1
    rw [e9]; exact p2
theorem unS_aft {u : Snap} (hN : NB s) (hK : KP s u) (hB : 0 ≤ s.1 8 ∧ s.1 8 ≤ 3000) : AFT (unS s u) u.1 :=
  undo_aft hN hB.2 hK ⟨fun _ _ _ => rfl, fun f _ hf i _ => by
    show (if f = 12 ∨ f = 13 ∨ f = 14 then u.2.2 f else (undU s u).2 f) i = (undU s u).2 f i
    rw [if_neg (fun q => hf (by simp; omega))]⟩ (unS_sht hK hB)
theorem unS_o {u : Snap} {f : Nat} (h : f ≠ 10 ∧ f ≠ 12 ∧ f ≠ 13 ∧ f ≠ 14) : (unS s u).2 f = s.2 f := by
  funext y
  show (if f = 12 ∨ f = 13 ∨ f = 14 then u.2.2 f else (undU s u).2 f) y = s.2 f y
  rw [if_neg (by omega)]
  show (if f = 10 ∧ y ∈ fl u.1 then u.2.2 10 y else s.2 f y) = s.2 f y
  rw [if_neg (by omega)]
theorem bb_op {u : Snap} {f : SC} {st : SM} (hK : KP s u) (hB : 0 ≤ s.1 8 ∧ s.1 8 ≤ 3000) (hO : OP A f st (fun x => x ∈ fl u.1) (fun b j => ∃ x, x ∈ fl u.1 ∧ x ≠ hd u.1 ∧ b = u.2.2 12 x ∧ j = u.2.2 13 x)) (hb : BB s st u (fl u.1)) : OP A f (unS s u) (fun x => x ∈ fl u.1) (fun b i => b ∈ fl u.1 ∧ 0 ≤ i ∧ i < pO (s.2 9 b)) := by
  obtain ⟨⟨p1, p2, p3, p4⟩, p5, p6, p7, p8⟩ := hK
  obtain ⟨b1, b2, b3, b4⟩ := hb
  obtain ⟨⟨hX, hN, hI⟩, ⟨hL, hP⟩, ⟨ht, h8, ht0, ht8⟩, hKI, hB8⟩ := hO
  have e8 : st.1 8 = s.1 8 := b1.1 8 (by decide)
  have lt : ∀ y, y ∈ fl u.1 → 0 ≤ y ∧ y < s.1 8 := fun y hy => (AT_mem u.1 p1 y hy).1
  have hh := hd_mem u.1 p1
  have kid : ∀ x i, x ∈ fl u.1 → 0 ≤ i → i < pO (s.2 9 x) → u.2.2 14 (3 * x + i) ∈ fl u.1 ∧ u.2.2 12 (u.2.2 14 (3 * x + i)) = x ∧ u.2.2 13 (u.2.2 14 (3 * x + i)) = i ∧ u.2.2 14 (3 * x + i) ≠ hd u.1 := fun x i hx i0 i1 => by
    have m := (AT_mem u.1 p1 x hx).2.2.1 i i0 i1 (fun q => by have := p2; unfold full at this; rw [this, ← q]; exact i1)
    refine ⟨m.1, m.2.1, m.2.2, fun q => ?_⟩
    have := m.2.1
    rw [q, p6] at this
    have := (lt x hx).1
    omega
  refine ⟨⟨hX, ?_, ⟨fun b hb => ⟨lt b hb, ?_⟩, fun b i hb => ⟨lt b hb.1, ⟨hb.2.1, ?_⟩, ?_⟩⟩⟩, ⟨fun b hb => ?_, fun b i hb => ?_⟩, ⟨?_, ?_, (lt _ hh).1, (lt _ hh).2⟩, ?_, hB⟩
  · refine ⟨fun b hb => hN.1 b (by rw [e8]; exact hb), fun b b0 b1' => ?_⟩
    have := hN.2 b b0 (by rw [e8]; exact b1')
    rw [b1.2 9 (by decide), b1.2 11 (by decide), b2] at this
    have e10 : (unS s u).2 10 b = if b ∈ fl u.1 then u.2.2 10 b else s.2 10 b := by
      show (if (10 : Nat) = 12 ∨ (10 : Nat) = 13 ∨ (10 : Nat) = 14 then u.2.2 10 else (undU s u).2 10) b = _
      rw [if_neg (by omega)]
      show (if (10 : Nat) = 10 ∧ b ∈ fl u.1 then u.2.2 10 b else s.2 10 b) = _
      by_cases q : b ∈ fl u.1
      · rw [if_pos ⟨rfl, q⟩, if_pos q]
      · rw [if_neg (fun w => q w.2), if_neg q]
    rw [unS_o (f := 9) (by decide), unS_o (f := 11) (by decide), e10]
    exact this
  · show u.2.2 12 b = -9 ∨ (0 ≤ u.2.2 12 b ∧ u.2.2 12 b < s.1 8)
    by_cases q : b = hd u.1
    · left; rw [q]; exact p6
    · right; exact lt _ ((AT_mem u.1 p1 b hb).2.2.2 q).1
  · rw [unS_o (by decide)]; exact hb.2.2
  · exact lt _ (kid b i hb.1 hb.2.1 hb.2.2).1
  · obtain ⟨g1, g2⟩ := b3 b hb
    obtain ⟨l1, l2⟩ := hL b hb
    refine ⟨by rw [l1, g1]; rfl, fun q => ?_⟩
    have q : u.2.2 12 b ≠ -9 := q
    have hbh : b ≠ hd u.1 := fun w => q (by rw [w]; exact p6)
    rw [l2 (by rw [g1]; exact q), (g2 hbh).1]
    rfl
  · obtain ⟨k1, k2, k3, k4⟩ := kid b i hb.1 hb.2.1 hb.2.2
    have := hP b i ⟨_, k1, k4, k2.symm, k3.symm⟩
    rw [this]
    have g := ((b3 _ k1).2 k4).2
    rw [k2, k3] at g
    rw [g]
    rfl
  · rw [ht, b4 hh]; rfl
  · rw [h8, e8]; rfl
  · unfold KIc at hKI ⊢
    rw [b1.1 2 (by decide), b1.2 4 (by decide), b1.2 5 (by decide), b1.2 6 (by decide), b1.2 7 (by decide)] at hKI
    rw [unS_o (by decide), unS_o (by decide), unS_o (by decide), unS_o (by decide)]
    exact hKI
theorem undo_c {F : Int → SC → Prop} (h1 : R1 A c s t) (hT : AFT s t) (hK : KIs s) (hKS : KSc A c K) (hKP : ∀ u, u ∈ K → KP s u) (hD : 300 ≤ d) (H1 : K = [] → F (-4) c) (H2 : ∀ K0 u, K = K0 ++ [u] → ∀ e, UND A c s e u K0 → F K0.length e) : ck iv L h0 d 21 [vr 64] c (qi F) := by
  obtain ⟨d, rfl⟩ : ∃ k, d = k + 1 + 1 + 1 := ⟨d - 3, by omega⟩
  obtain ⟨⟨d1, d2, d3, d4, d5⟩, e1, e2, e3, e4, e5, e6⟩ := h1.cur hT
  have hS := hT.1
  have hB := hS.2.2.2.2.1
  have h353 := h1.1.1.2.2.1
  obtain ⟨⟨k1, k2, k3, k4⟩, k5⟩ := id hKS
  refine C21 ?_
  rw [d3, k1]
  refine ⟨d1, d2, fun hne => ?_, fun he => H1 (by
    cases K with
    | nil => rfl
    | cons a r => simp at he; omega)⟩
  have hKne : K ≠ [] := fun q => hne (by rw [q]; rfl)
  obtain ⟨K0, u, hKK⟩ : ∃ K0 u, K = K0 ++ [u] := ⟨K.dropLast, K.getLast hKne, (List.dropLast_concat_getLast hKne).symm⟩
  have hu : K[K0.length]? = some u := by rw [hKK]; simp
  have hlen : K.length = K0.length + 1 := by rw [hKK]; simp
  have hKu := hKP u (by rw [hKK]; simp)
  have hSn := k5 _ u hu
  have H3 := H2 K0 u hKK
  obtain ⟨m1, m2⟩ := mod19 k3 k4
  generalize hn : fI c 70 6 = n at *
  have hpos : pos n K.length K0.length = n.toNat := by unfold pos; omega
  rw [hpos] at hSn
  have hi : n.toNat < 20 := by omega
  have hni : ((n.toNat : Nat) : Int) = n := by omega
  have hk : fR c 70 5 = 72 ∧ kl c 72 = 104 ∧ le c 72 = 20 := by simp only [h1.1.1.1]; exact ⟨trivial, trivial, trivial⟩
  obtain ⟨p1, p2, -⟩ := h1.1.1.2.1.1 n.toNat hi
  rw [hni] at p1
  refine C220 ⟨d2, ?_⟩
  rw [hn, hk.1, hk.2.1, hk.2.2, p1, p2]
  have hO0 : OP A c s (fun _ => False) (fun _ _ => False) := op_mo (op_of h1 hS) (fun _ q => q.elim) (fun _ _ q => q.elim)
  refine ⟨rfl, by omega, rfl, bring_ok hi hO0 hKu hSn (fun f st hOf hBB hfl hxf hrf => ?_)⟩
  have hOv := bb_op hKu hB hOf hBB
  have hXf := hOf.1.1
  obtain ⟨a1, a2, a3, -⟩ := hXf.dk
  have f6 : fI (uR f 70 2 (A (u.2.1 16))) 70 6 = n := by rw [fI_uR, hxf.i (a := 70) (by omega) (by rw [d2]; decide)]; exact hn
  have f7 : fI (uR f 70 2 (A (u.2.1 16))) 70 7 = K.length := by rw [fI_uR, hxf.i (a := 70) (by omega) (by rw [d2]; decide)]; exact k1
  rw [f6, f7, m2, m1]
  refine ⟨a2, by omega, by omega, by split <;> omega, by split <;> omega, by omega, d1 |> fun _ => by rw [kl_uI, kl_uI, kl_uR]; exact a1, ?_⟩
  generalize hc5 : uI (uI (uR f 70 2 (A (u.2.1 16))) 70 6 (if n = 0 then 19 else n - 1)) 70 7 ((K.length : Int) - 1) = c5
  have hx5 : CX [(8, 2), (8, 6), (8, 7)] [] f c5 := by
    rw [← hc5]
    exact ((CX.rf.uR (fun _ => by rw [a2]; decide)).uI (fun _ => by rw [kl_uR, a2]; decide)).uI (fun _ => by rw [kl_uI, kl_uR, a2]; decide)
  have hO5 := op_x hOv hx5 (by decide) (by decide) (by decide) (by decide) ⟨by decide, by decide, by decide, by decide⟩ ⟨by decide, by decide, by decide, by decide⟩
  have hcur : fR c5 70 2 = A ((unS s u).1 16) := by
    rw [← hc5, fR_uI, fR_uI, fR_uR, if_pos ⟨rfl, rfl⟩]; rfl
  have hKI : KIs (unS s u) := KIs_e hK rfl ⟨unS_o (by decide), unS_o (by decide), unS_o (by decide), unS_o (by decide)⟩
  have n6 : fI c5 70 6 = if n = 0 then 19 else n - 1 := by rw [← hc5, fI_uI, if_neg (by omega), fI_uI, if_pos ⟨rfl, rfl⟩]
  have n7 : fI c5 70 7 = (K.length : Int) - 1 := by rw [← hc5, fI_uI, if_pos ⟨rfl, rfl⟩]
  have hK5 : KSc A c5 K0 := by
    have h0' : KSc A f K := hKS.x h1.1.1 EXT.rf hB.1 hKP hxf (by decide) (by decide)
    obtain ⟨⟨q1, q2, q3, q4⟩, q5⟩ := h0'
    have f6' : fI f 70 6 = n := f6
    rw [f6'] at q5
    refine ⟨⟨by rw [n7]; omega, by omega, by rw [n6]; split <;> omega, by rw [n6]; split <;> omega⟩, fun j w hj => ?_⟩
    have hjl : j < K0.length := (List.getElem?_eq_some_iff.mp hj).1
    have := q5 j w (by rw [hKK, List.getElem?_append_left hjl]; exact hj)
    have hp : pos (fI c5 70 6) K0.length j = pos n K.length j := by
      rw [n6]; unfold pos; split <;> omega
    rw [hp]
    refine this.up ⟨?_, ?_⟩ ⟨?_, ?_, ?_, ?_⟩
    · rw [← hc5, fI_uI, if_neg (by omega), fI_uI, if_neg (by omega), fI_uR]
    · rw [← hc5, fR_uI, fR_uI, fR_uR, if_neg (by omega)]
    · rw [← hc5]; rfl
    · rw [← hc5]; rfl
    · rw [← hc5]; rfl
    · rw [← hc5]; rfl
  have hX5 := hO5.1.1
  have hb8' : (unS s u).1 8 = s.1 8 := rfl
  have hr5 : RMk 0 0 f c5 := by rw [← hc5]; exact RMk.rf
  refine changed0_ok hO5 hcur (unS_aft hT.2.1 hKu hB) hKI (fun x hx => hx) (fun x i hx i0 i1 => ⟨hx, i0, by rw [unS_o (by decide)] at i1; exact i1⟩) (by omega) (fun e g1 g2 g3 g4 => ?_)
  obtain ⟨z1, z2, z3, -⟩ := g1.1.1.dk
  have hKe : KSc A e K0 := hK5.x hX5 EXT.rf hB.1 (fun w hw => hKP w (by rw [hKK]; exact List.mem_append_left _ hw)) g2 (by decide) (by decide)
  refine ⟨z1, by rw [z3]; exact z2, ?_⟩
  rw [z3, hKe.1.1]
  refine H3 e ⟨g1, ?_, ((hrf.tr hr5).tr g3).up (by decide) (by decide), hKe, g4, fun x hx => ?_, fun a ha => ?_⟩
  · refine (hxf.up (by decide) (fun y hy => by simp at hy; subst hy; simp [acR])).tr ((hx5.up (by decide) (fun _ q => by cases q)).tr ((cxa_t g2).up (fun y hy => List.mem_cons_of_mem _ hy) (fun _ q => q)))
  · have hxB := (AT_mem u.1 hKu.1.1 x hx).1
    obtain ⟨⟨y1, y2, y3, y4, y5, y6, y7, y8⟩, y9, y10⟩ := hO5.1.2.1.2 x hxB.1 hxB.2
    rw [g2.r (by omega) (by rw [ky5 y10, y1]; decide), ← hc5, fR_uI, fR_uI, fR_uR, if_neg (by omega)]
    exact hfl.1 x hx
  · have ha1 : a < nxt f := Nat.lt_of_lt_of_le ha hxf.n
    have ha2 : a < nxt c5 := Nat.lt_of_lt_of_le ha1 hx5.n
    rw [g2.r ha2 (by unfold tyY sys; simp), hx5.r ha1 (by simp)]
    exact hfl.2 a ha
end
end
section
/-! The shelf of the desk; shelve(). -/
/-- a copy -/
def CPc (c : SC) (a : Nat) (u : Snap) : Prop := fI c a 5 = (fl u.1).length ∧ ∀ (k : Nat) (x : Int), (fl u.1)[k]? = some x → (aI c (a + 1) k = u.2.2 9 x ∧ aI c (a + 2) k = u.2.2 10 x ∧ aI c (a + 3) k = u.2.2 11 x) ∧ (0 < k → (∃ j : Nat, j < k ∧ aI c (a + 4) k = j ∧ (fl u.1)[j]? = some (u.2.2 12 x)) ∧ aI c (a + 5) k = u.2.2 13 x)
def SHc (c : SC) (Sh : Int → Option Snap) : Prop := ∀ p : Nat, p < 6 → (Sh p = none → fI c (199 + 6 * p) 5 = 0) ∧ ∀ u, Sh p = some u → CPc c (199 + 6 * p) u
/-- a node stands behind the one that it is a part of -/
theorem AT_bef {so pa up pl : Int → Int} {B : Int} : ∀ (u : Term), AT so pa up pl B u → (fl u).Nodup → ∀ (k : Nat) (x : Int), (fl u)[k]? = some x → x ≠ hd u → ∃ j : Nat, j < k ∧ (fl u)[j]? = some (up x) := by
  intro u
  induction u with
  | index b =>
    intro _ _ k x hk hx
    have hm := List.mem_of_getElem? hk
    exact absurd (List.mem_singleton.mp hm) hx
  | add t y ih ihy =>
    intro h hnd k x hk hx
    obtain ⟨h1, h2, h3, h4, h5, h6, h7⟩ := h
    obtain ⟨d1, d2, d3⟩ := List.nodup_append.mp hnd
    have e : fl (Term.add t y) = fl t ++ fl y := rfl
    rw [e] at hk ⊢
    by_cases hl : k < (fl t).length
    · rw [List.getElem?_append_left hl] at hk
      obtain ⟨j, j1, j2⟩ := ih h1 d1 k x hk hx
      exact ⟨j, j1, by rw [List.getElem?_append_left (by omega)]; exact j2⟩
    · rw [List.getElem?_append_right (by omega)] at hk
      by_cases hy : x = hd y
      · obtain ⟨r, hr⟩ := fl_hd t h1
        refine ⟨0, ?_, ?_⟩
        · have : 0 < (fl t).length := by rw [hr]; simp
          omega
        · rw [hy, h6, hr]; rfl
      · obtain ⟨j, j1, j2⟩ := ihy h2 d2 _ x hk hy
        exact ⟨(fl t).length + j, by omega, by rw [List.getElem?_append_right (by omega), Nat.add_sub_cancel_left]; exact j2⟩
  | _ => intro h; exact h.elim
section
variable {iv : List (Int × Int)} {L : Nat} {h0 : MH} {A A' : Int → Nat} {c e : SC} {s s' w : SM} {t : Term} {d : Nat} {P : Int → Prop} {Q : Int → Int → Prop} {K : List Snap}
theorem CPc.up {a : Nat} {u : Snap} (h : CPc c a u) (h1 : fI e a 5 = fI c a 5) (h2 : ∀ j, j < 5 → aI e (a + (j + 1)) = aI c (a + (j + 1))) : CPc e a u := by
  unfold CPc
  rw [h1, h2 0 (by decide), h2 1 (by decide), h2 2 (by decide), h2 3 (by decide), h2 4 (by decide)]
  exact h
theorem SHc.x {ys : List (Nat × Nat)} {rs : List Nat} {Sh : Int → Option Snap} (h : SHc c Sh) (hX : FIX c) (hx : CX ys rs c e) (hy : (2, 5) ∉ ys) (hr : ∀ a, a ∈ rs → a < 199 ∨ 353 ≤ a) : SHc e Sh := fun p hp => by
  obtain ⟨g1, g2⟩ := h p hp
  have h3 := hX.2.2.1
  obtain ⟨o1, o2, -⟩ := hX.2.1.2 p hp
  have hky : ky (199 + 6 * p) (kl c (199 + 6 * p)) = 2 := by rw [o2]; unfold ky; rw [if_neg (by omega)]
  have e5 : fI e (199 + 6 * p) 5 = fI c (199 + 6 * p) 5 := hx.i (by omega) (by rw [hky]; exact hy)
  refine ⟨fun q => by rw [e5]; exact g1 q, fun u hu => (g2 u hu).up e5 (fun j hj => hx.ai (by omega) (fun q => ?_))⟩
  unfold rk at q
  rw [if_pos (by omega)] at q
  have := hr _ q
  omega
theorem copyOf_ok {p : Nat} {x0 : Int} {F : SC → Prop} (hp : p < 6) (h1 : R1 A c s t) (hS : SHT s t) (hx : x0 ∈ fl t) (hF : ∀ e, SMR [] [200 + 6 * p, 201 + 6 * p, 202 + 6 * p, 203 + 6 * p, 204 + 6 * p] (uI c (199 + 6 * p) 5 (fl (sq x0 t)).length) e → CPc e (199 + 6 * p) (sq x0 t, s) → F e) : ck iv L h0 (d + 2) 160 [vr (199 + 6 * p), vr 70, vr (A x0)] c (qv F) := by
  obtain ⟨a, z, r, e1, e2, e3⟩ := seq_at hS hx
  obtain ⟨⟨n1, n2, n3, n4, n5, n6, n7, n8⟩, n9, n10⟩ := h1.1.2.1.2 x0 (hS.m _ hx).1 (hS.m _ hx).2
  have rx : fI c (A x0) 7 = a.length := rank_at h1.1.2.2.2 (m := r ++ z) (by rw [e1, e2]; rfl)
  have hl := hS.2.2.2.1
  have hsz := h1.1.2.2.2.1
  have hlen : (fl t).length = a.length + ((fl (sq x0 t)).length + z.length) := by rw [e1]; simp
  obtain ⟨b1, b2, b3, b4, b5, b6, b7⟩ := sq_ok hS.1 hS.2.1 hS.2.2.1 hx
  obtain ⟨o1, o2, ⟨o3, o4, o5, o6, o7⟩, ⟨o8, o9, o10, o11, o12⟩, o13, o14, o15, o16, o17⟩ := h1.1.1.2.1.2 p hp
  have hky : ky (199 + 6 * p) (kl c (199 + 6 * p)) = 2 := by rw [o2]; unfold ky; rw [if_neg (by omega)]
  obtain ⟨k1, k2, k3, k4⟩ := h1.1.1.or
  generalize hc0 : uI c (199 + 6 * p) 5 (fl (sq x0 t)).length = c0 at hF
  have hx0 : CX [(2, 5)] [] c c0 := by rw [← hc0]; exact CX.rf.uI (fun _ => by rw [hky]; decide)
  have hX0 : FIX c0 := h1.1.1.x hx0 (by decide) (by decide)
  have key : ∀ (m q : List Int) (f : SC), fl (sq x0 t) = q ++ m → SMR [] [200 + 6 * p, 201 + 6 * p, 202 + 6 * p, 203 + 6 * p, 204 + 6 * p] c0 f → (∀ (k : Nat) (x : Int), q[k]? = some x → (aI f (200 + 6 * p) k = s.2 9 x ∧ aI f (201 + 6 * p) k = s.2 10 x ∧ aI f (202 + 6 * p) k = s.2 11 x) ∧ (0 < k → (∃ j : Nat, j < k ∧ aI f (203 + 6 * p) k = j ∧ (fl (sq x0 t))[j]? = some (s.2 12 x)) ∧ aI f (204 + 6 * p) k = s.2 13 x)) → wk iv L h0 (d + 2) 160 11 [lr (199 + 6 * p), lr 70, lr (A x0), li q.length] [] f (qv F) := by
    intro m
    induction m with
    | nil =>
      intro q f hq hf hj
      have e5 : fI f (199 + 6 * p) 5 = (fl (sq x0 t)).length := by rw [(hf.1 _ _).1, ← hc0, fI_uI, if_pos ⟨rfl, rfl⟩]
      have ekl : kl f (199 + 6 * p) = 2 := by rw [(hf.2.1 _).1, ← hc0]; exact o2
      rw [List.append_nil] at hq
      refine C160_11 ⟨ekl, fun _ => hF f hf ⟨e5, fun k x hk => ?_⟩, fun w => ?_⟩
      · have hk : (fl (sq x0 t))[k]? = some x := hk
        rw [show 199 + 6 * p + 1 = 200 + 6 * p by omega, show 199 + 6 * p + 2 = 201 + 6 * p by omega, show 199 + 6 * p + 3 = 202 + 6 * p by omega, show 199 + 6 * p + 4 = 203 + 6 * p by omega, show 199 + 6 * p + 5 = 204 + 6 * p by omega]
        exact hj k x (by rw [← hq]; exact hk)
      · rw [e5, hq] at w; omega
    | cons x m ih =>
      intro q f hq hf hj
      have e5 : fI f (199 + 6 * p) 5 = (fl (sq x0 t)).length := by rw [(hf.1 _ _).1, ← hc0, fI_uI, if_pos ⟨rfl, rfl⟩]
      have ekl : ∀ b, kl f b = kl c b := fun b => by rw [(hf.2.1 _).1, ← hc0, kl_uI]
      have ele : ∀ b, le f b = le c b := fun b => by rw [(hf.2.1 _).2, ← hc0, le_uI]
      have efR : ∀ b y, fR f b y = fR c b y := fun b y => by rw [(hf.1 _ _).2, ← hc0, fR_uI]
      have efI : ∀ b y, y ≠ 5 → fI f b y = fI c b y := fun b y hy => by rw [(hf.1 _ _).1, ← hc0, fI_uI, if_neg (fun w => hy w.1)]
      have e71 : ∀ k, aR f 71 k = aR c 71 k := fun k => by rw [hf.2.2.2.2 71 (by simp), ← hc0, aR_uI]
      obtain ⟨w1, w2, w3, w4, w5, w6, w7, w8⟩ := R1.ord (x := x) (p := a ++ q) (m := m ++ z) h1.1 hS (by rw [e1, hq]; simp)
      rw [List.length_append] at w2 w4 w5
      push_cast at w4 w5
      have hxs : x ∈ fl (sq x0 t) := by rw [hq]; simp
      have hql : (fl (sq x0 t)).length = q.length + (m.length + 1) := by rw [hq]; simp
      have hgx : (fl (sq x0 t))[q.length]? = some x := by rw [hq]; simp
      have hk11 : fI c (A x) 2 = s.2 11 x := (h1.1.2.1.2 x (hS.m _ w1).1 (hS.m _ w1).2).1.2.2.2.2.2.1
      obtain ⟨g1, g2, g3⟩ := h1.1.2.2.1.1 x w1
      refine C160_11 ⟨by rw [ekl]; exact o2, fun v => by rw [e5] at v; omega, fun _ => ?_⟩
      simp only [ekl, ele, efR, k2, e71]
      rw [efI _ _ (by decide), rx, k1, n1, k3, k4, o3, o4, o5, o6, o7, o8, o9, o10, o11, o12, o13, o14, o15, o16, o17, w4, w6, g1]
      refine ⟨rfl, rfl, by omega, rfl, by omega, rfl, rfl, by omega, rfl, by omega, rfl, by omega, fun hq0 => ?_, fun hq0 => ⟨rfl, by omega, rfl, by omega, by omega, ?_⟩⟩
      · -- behind the first
        have hxn : x ≠ hd (sq x0 t) := fun w => by
          have hq1 : 0 < q.length := by omega
          obtain ⟨r2, hr2⟩ := fl_hd _ b1
          have h00 : (fl (sq x0 t))[0]? = some (hd (sq x0 t)) := by rw [hr2]; rfl
          obtain ⟨j1, j2⟩ := List.getElem?_eq_some_iff.mp hgx
          obtain ⟨k1', k2'⟩ := List.getElem?_eq_some_iff.mp h00
          have : q.length = 0 := (List.getElem_inj b5).mp (j2.trans (w.trans k2'.symm))
          omega
        obtain ⟨j, j1, j2⟩ := AT_bef _ b1 b5 _ _ hgx hxn
        have hus := List.mem_of_getElem? j2
        have hut := b4 _ hus
        have hku := (h1.1.2.1.2 _ (hS.m _ hut).1 (hS.m _ hut).2).1.1
        have hru : fI c (A (s.2 12 x)) 7 = (a.length : Int) + j := by
          have := (h1.1.2.2.2.2 (a.length + j) (s.2 12 x) (by rw [e1, List.getElem?_append_right (by omega), Nat.add_sub_cancel_left, List.getElem?_append_left (by omega)]; exact j2)).2
          rw [this]; push_cast; rfl
        rw [hku, efI _ _ (by decide), hru]
        refine ⟨rfl, by omega, rfl, by omega, rfl, by omega, by omega, ?_⟩
        have hxt : x ≠ hd t := fun w => by
          have hu9 := (AT_mem _ b1 x hxs).2.2.2 hxn
          have := (AT_mem _ b1 _ hu9.1).1
          rw [w] at this
          have h9 := hS.2.2.2.2.2.2.1
          omega
        generalize hE : uA (uA (uA (uA (uA f (200 + 6 * p) (q.length : Int) (fI f (A x) 1)) (201 + 6 * p) (q.length : Int) (fI f (A x) 4)) (202 + 6 * p) (q.length : Int) (fI f (A x) 2)) (203 + 6 * p) (q.length : Int) ((a.length : Int) + j - a.length)) (204 + 6 * p) (q.length : Int) (fI f (A x) 6) = g
        have hg : SMR [] [200 + 6 * p, 201 + 6 * p, 202 + 6 * p, 203 + 6 * p, 204 + 6 * p] c0 g := by
          rw [← hE]
          exact ((((hf.uA (by simp)).uA (by simp)).uA (by simp)).uA (by simp)).uA (by simp)
        have r1 : ∀ k : Int, k ≠ q.length → ∀ b, aI g b k = aI f b k := fun k hk b => by
          rw [← hE, aI_uA, if_neg (fun w => hk w.2), aI_uA, if_neg (fun w => hk w.2), aI_uA, if_neg (fun w => hk w.2), aI_uA, if_neg (fun w => hk w.2), aI_uA, if_neg (fun w => hk w.2)]
        have v1 : aI g (200 + 6 * p) (q.length : Int) = s.2 9 x := by
          rw [← hE, aI_uA, if_neg (by omega), aI_uA, if_neg (by omega), aI_uA, if_neg (by omega), aI_uA, if_neg (by omega), aI_uA, if_pos ⟨rfl, rfl⟩, efI _ _ (by decide)]; exact w7
        have v2 : aI g (201 + 6 * p) (q.length : Int) = s.2 10 x := by
          rw [← hE, aI_uA, if_neg (by omega), aI_uA, if_neg (by omega), aI_uA, if_neg (by omega), aI_uA, if_pos ⟨rfl, rfl⟩, efI _ _ (by decide)]; exact w8
        have v3 : aI g (202 + 6 * p) (q.length : Int) = s.2 11 x := by
          rw [← hE, aI_uA, if_neg (by omega), aI_uA, if_neg (by omega), aI_uA, if_pos ⟨rfl, rfl⟩, efI _ _ (by decide)]; exact hk11
        have v4 : aI g (203 + 6 * p) (q.length : Int) = j := by
          rw [← hE, aI_uA, if_neg (by omega), aI_uA, if_pos ⟨rfl, rfl⟩]; omega
        have v5 : aI g (204 + 6 * p) (q.length : Int) = s.2 13 x := by
          rw [← hE, aI_uA, if_pos ⟨rfl, rfl⟩, efI _ _ (by decide)]; exact g2 hxt
        have := ih (q ++ [x]) g (by rw [hq]; simp) hg (fun k y hy => ?_)
        · rw [List.length_append] at this
          simp only [List.length_cons, List.length_nil] at this
          push_cast at this
          exact this
        · by_cases hkl : k < q.length
          · rw [List.getElem?_append_left hkl] at hy
            rw [r1 k (by omega), r1 k (by omega), r1 k (by omega), r1 k (by omega), r1 k (by omega)]
            exact hj k y hy
          · rw [List.getElem?_append_right (by omega)] at hy
            have hk0 : k - q.length = 0 := by
              cases hq : k - q.length with
              | zero => rfl
              | succ z => rw [hq] at hy; simp at hy
            rw [hk0] at hy
            simp at hy
            subst hy
            have hkq : k = q.length := by omega
            subst hkq
            exact ⟨⟨v1, v2, v3⟩, fun _ => ⟨⟨j, j1, v4, j2⟩, v5⟩⟩
      · have hq0' : q = [] := by
          cases q with
          | nil => rfl
          | cons y q => simp at hq0; omega
        subst hq0'
        generalize hE : uA (uA (uA (uA (uA f (200 + 6 * p) ((([] : List Int).length : Nat) : Int) (fI f (A x) 1)) (201 + 6 * p) ((([] : List Int).length : Nat) : Int) (fI f (A x) 4)) (202 + 6 * p) ((([] : List Int).length : Nat) : Int) (fI f (A x) 2)) (203 + 6 * p) ((([] : List Int).length : Nat) : Int) (-9)) (204 + 6 * p) ((([] : List Int).length : Nat) : Int) (fI f (A x) 6) = g
        have hg : SMR [] [200 + 6 * p, 201 + 6 * p, 202 + 6 * p, 203 + 6 * p, 204 + 6 * p] c0 g := by
          rw [← hE]
          exact ((((hf.uA (by simp)).uA (by simp)).uA (by simp)).uA (by simp)).uA (by simp)
        have v1 : aI g (200 + 6 * p) 0 = s.2 9 x := by
          rw [← hE, aI_uA, if_neg (by omega), aI_uA, if_neg (by omega), aI_uA, if_neg (by omega), aI_uA, if_neg (by omega), aI_uA, if_pos ⟨rfl, rfl⟩, efI _ _ (by decide)]; exact w7
        have v2 : aI g (201 + 6 * p) 0 = s.2 10 x := by
          rw [← hE, aI_uA, if_neg (by omega), aI_uA, if_neg (by omega), aI_uA, if_neg (by omega), aI_uA, if_pos ⟨rfl, rfl⟩, efI _ _ (by decide)]; exact w8
        have v3 : aI g (202 + 6 * p) 0 = s.2 11 x := by
          rw [← hE, aI_uA, if_neg (by omega), aI_uA, if_neg (by omega), aI_uA, if_pos ⟨rfl, rfl⟩, efI _ _ (by decide)]; exact hk11
        refine ih [x] g hq hg (fun k y hy => ?_)
        cases k with
        | zero =>
          simp at hy
          subst hy
          exact ⟨⟨v1, v2, v3⟩, fun w => by omega⟩
        | succ k => simp at hy
  refine C160 ⟨k1, sizeAt_c (d := d) h1 hS hx ⟨o2, ?_⟩⟩
  rw [hc0]
  exact key (fl (sq x0 t)) [] c0 rfl SMR.rf (fun k x hk => by simp at hk)
def shY : List (Nat × Nat) := [(2, 5)]
def shR : List Nat := [200, 201, 202, 203, 204, 206, 207, 208, 209, 210, 212, 213, 214, 215, 216, 218, 219, 220, 221, 222, 224, 225, 226, 227, 228, 230, 231, 232, 233, 234]
theorem shR_mem {p j : Nat} (hp : p < 6) (hj : j < 5) : 200 + 6 * p + j ∈ shR := by
  have h1 : (List.range 6).all (fun i => (List.range 5).all (fun j => decide (200 + 6 * i + j ∈ shR))) = true := by decide +kernel
  exact of_decide_eq_true (List.all_eq_true.mp (List.all_eq_true.mp h1 p (List.mem_range.mpr hp)) j (List.mem_range.mpr hj))
theorem shelve_c {p : Int} {F : Int → SC → Prop} {Sh : Int → Option Snap} (h1 : R1 A c s t) (hT : AFT s t) (hSh : SHc c Sh) (hD : 100 ≤ d) (H1 : ¬ (0 ≤ p ∧ p < 6) → F (-1) c) (H2 : (0 ≤ p ∧ p < 6) → ∀ e, SHc e (shP Sh p (sq (s.1 16) t, s)) → CX shY shR c e → RMk 0 0 c e → F (fl (sq (s.1 16) t)).length e) : ck iv L h0 d 19 [vr 64, vi p] c (qi F) := by
  obtain ⟨d, rfl⟩ : ∃ k, d = k + 1 + 2 := ⟨d - 3, by omega⟩
  obtain ⟨⟨d1, d2, d3, d4, d5⟩, e1, e2, e3, e4, e5, e6⟩ := h1.cur hT
  have hk : fR c 64 6 = 193 ∧ kl c 193 = 105 ∧ le c 193 = 6 := by simp only [h1.1.1.1]; exact ⟨trivial, trivial, trivial⟩
  refine C19 (C41 ⟨fun q => ⟨fun w => absurd rfl w, fun _ => H1 (by omega)⟩, fun q => ⟨fun q2 => ⟨fun w => absurd rfl w, fun _ => H1 (by omega)⟩, fun q2 => ⟨fun _ => ?_, fun w => absurd w (by decide)⟩⟩⟩)
  obtain ⟨i, rfl⟩ : ∃ i : Nat, p = i := ⟨p.toNat, by omega⟩
  have hi : i < 6 := by omega
  obtain ⟨o1, o2, -⟩ := h1.1.1.2.1.2 i hi
  have h353 := h1.1.1.2.2.1
  rw [hk.1, hk.2.1, hk.2.2, o1, o2, d3, e1]
  refine ⟨d1, rfl, by omega, d2, rfl, copyOf_ok (d := d) hi h1 hT.1 hT.2.2 (fun e he hC => ?_)⟩
  have hky : ky (199 + 6 * i) (kl c (199 + 6 * i)) = 2 := by rw [o2]; unfold ky; rw [if_neg (by omega)]
  have hx0 : CX shY shR c (uI c (199 + 6 * i) 5 (fl (sq (s.1 16) t)).length) := CX.rf.uI (fun _ => by rw [hky]; decide)
  have hx : CX shY shR c e := he.cx hx0 (fun a ha => by
    have ha : a = 200 + 6 * i ∨ a = 201 + 6 * i ∨ a = 202 + 6 * i ∨ a = 203 + 6 * i ∨ a = 204 + 6 * i := by simp at ha; omega
    refine ⟨by omega, ?_⟩
    rcases ha with rfl | rfl | rfl | rfl | rfl
    · exact shR_mem hi (j := 0) (by decide)
    · have := shR_mem hi (j := 1) (by decide); rwa [show 200 + 6 * i + 1 = 201 + 6 * i by omega] at this
    · have := shR_mem hi (j := 2) (by decide); rwa [show 200 + 6 * i + 2 = 202 + 6 * i by omega] at this
    · have := shR_mem hi (j := 3) (by decide); rwa [show 200 + 6 * i + 3 = 203 + 6 * i by omega] at this
    · have := shR_mem hi (j := 4) (by decide); rwa [show 200 + 6 * i + 4 = 204 + 6 * i by omega] at this)
  have hXe := h1.1.1.x hx (by decide) (by decide)
  have hke : kl e 64 = 1 ∧ fR e 64 6 = 193 ∧ kl e 193 = 105 ∧ le e 193 = 6 := by simp only [hXe.1]; exact ⟨trivial, trivial, trivial, trivial⟩
  obtain ⟨p1, p2, -⟩ := hXe.2.1.2 i hi
  rw [hke.1, hke.2.1, hke.2.2.1, hke.2.2.2, p1, p2, hC.1]
  refine ⟨rfl, rfl, by omega, rfl, H2 ⟨by omega, by omega⟩ e (fun z hz => ?_) hx ⟨by rw [he.2.2.1.1]; exact Nat.le_refl _, by rw [he.2.2.1.2]; exact Nat.le_refl _⟩⟩
  by_cases hqi : z = i
  · subst hqi
    have : shP Sh (z : Int) (sq (s.1 16) t, s) (z : Int) = some (sq (s.1 16) t, s) := if_pos rfl
    rw [this]
    exact ⟨(fun w => by cases w), (fun u hu => by cases hu; exact hC)⟩
  · have : shP Sh (i : Int) (sq (s.1 16) t, s) (z : Int) = Sh z := if_neg (by omega)
    rw [this]
    obtain ⟨g1, g2⟩ := hSh z hz
    have f5 : fI e (199 + 6 * z) 5 = fI c (199 + 6 * z) 5 := by rw [(he.1 _ _).1, fI_uI, if_neg (by omega)]
    refine ⟨fun w => by rw [f5]; exact g1 w, fun u hu => (g2 u hu).up f5 (fun j hj => ?_)⟩
    rw [he.2.2.2.1 _ (by simp; omega), aI_uI]
end
end
section
/-! Nodes born anew from the shelf by the desk. -/
theorem AT_rlb {so pa up pl so' pa' up' pl' : Int → Int} {B B' : Int} : ∀ (t : Term) (b : Nat), AT so pa up pl B t → (fl t).Nodup → (b : Int) + (fl t).length ≤ B' → (∀ (k : Nat) (x : Int), (fl t)[k]? = some x → so' (b + k) = so x) → (∀ (k : Nat) (x : Int) (j : Nat), 0 < k → (fl t)[k]? = some x → (fl t)[j]? = some (up x) → up' (b + k) = b + j ∧ pl' (b + k) = pl x ∧ pa' (3 * (b + j) + pl x) = b + k) → AT so' pa' up' pl' B' (rlb t b) := by
  intro t
  induction t with
  | index n =>
    intro b h _ hB hs _
    have h1 : (fl (Term.index n)).length = 1 := rfl
    have := hs 0 n rfl
    refine ⟨by show (b : Int) < B'; omega, ?_⟩
    show 0 ≤ so' b ∧ so' b < 16
    rw [show ((b : Int)) = b + ((0 : Nat) : Int) by omega, this]
    exact h.2
  | add t y ih ihy =>
    intro b h hnd hB hs hl
    obtain ⟨h1, h2, h3, h4, h5, h6, h7⟩ := h
    obtain ⟨d1, d2, d3⟩ := List.nodup_append.mp hnd
    have e : fl (Term.add t y) = fl t ++ fl y := rfl
    have hlen : (fl (Term.add t y)).length = (fl t).length + (fl y).length := by rw [e, List.length_append]
    have lt : ∀ (k : Nat) (x : Int), (fl t)[k]? = some x → (fl (Term.add t y))[k]? = some x := fun k x hk => by
      rw [e, List.getElem?_append_left (List.getElem?_eq_some_iff.mp hk).1]; exact hk
    have ly : ∀ (k : Nat) (x : Int), (fl y)[k]? = some x → (fl (Term.add t y))[(fl t).length + k]? = some x := fun k x hk => by
      rw [e, List.getElem?_append_right (by omega), Nat.add_sub_cancel_left]; exact hk
    obtain ⟨rt, hrt⟩ := fl_hd t h1
    obtain ⟨ry, hry⟩ := fl_hd y h2
    have a1 := ih b h1 d1 (by rw [hlen] at hB; push_cast at hB; omega) (fun k x hk => hs k x (lt k x hk)) (fun k x j k0 hk hj => hl k x j k0 (lt k x hk) (lt j _ hj))
    have a2 := ihy (b + (fl t).length) h2 d2 (by rw [hlen] at hB; push_cast at hB ⊢; omega) (fun k x hk => by
      have := hs _ x (ly k x hk)
      rw [← this]; congr 1; push_cast; omega) (fun k x j k0 hk hj => by
      obtain ⟨q1, q2, q3⟩ := hl _ x _ (by omega) (ly k x hk) (ly j _ hj)
      refine ⟨?_, ?_, ?_⟩
      · rw [show ((b + (fl t).length : Nat) : Int) + k = b + (((fl t).length + k : Nat) : Int) by push_cast; omega, q1]; push_cast; omega
      · rw [show ((b + (fl t).length : Nat) : Int) + k = b + (((fl t).length + k : Nat) : Int) by push_cast; omega, q2]
      · rw [show 3 * (((b + (fl t).length : Nat) : Int) + j) + pl x = 3 * (b + (((fl t).length + j : Nat) : Int)) + pl x by push_cast; omega, q3]; push_cast; omega)
    obtain ⟨f1, f2, f3⟩ := rlb_fl t b h1
    obtain ⟨g1, g2, g3⟩ := rlb_fl y (b + (fl t).length) h2
    have hy0 : (fl (Term.add t y))[(fl t).length]? = some (hd y) := by
      have := ly 0 (hd y) (by rw [hry]; rfl)
      exact this
    have ht0 : (fl (Term.add t y))[0]? = some (hd t) := lt 0 (hd t) (by rw [hrt]; rfl)
    have hl0 := hl (fl t).length (hd y) 0 (by rw [hrt]; simp) hy0 (by rw [h6]; exact ht0)
    rw [h7] at hl0
    have hst : so' (b : Int) = so (hd t) := by
      have := hs 0 (hd t) ht0
      rw [← this]; congr 1
    refine ⟨a1, a2, ?_, ?_, ?_, ?_, ?_⟩
    · show na (rlb y (b + (fl t).length)) = pO (so' (hd (rlb y (b + (fl t).length))))
      rw [g2, g3]
      have := hs _ _ hy0
      rw [show ((b + (fl t).length : Nat) : Int) = b + (((fl t).length : Nat) : Int) by push_cast; rfl, this]
      exact h3
    · rw [f2, f3, hst]; exact h4
    · rw [f2, f3, g2]
      have := hl0.2.2
      rw [show 3 * ((b : Int) + ((0 : Nat) : Int)) + na t = 3 * (b : Int) + na t by omega] at this
      rw [this]; push_cast; rfl
    · rw [g2, f2]
      have := hl0.1
      rw [show ((b + (fl t).length : Nat) : Int) = b + (((fl t).length : Nat) : Int) by push_cast; rfl, this]; omega
    · rw [g2, f3]
      have := hl0.2.1
      rw [show ((b + (fl t).length : Nat) : Int) = b + (((fl t).length : Nat) : Int) by push_cast; rfl]
      exact this
  | _ => intro b h; exact h.elim
/-- so far born -/
def FBs (s : SM) (u : Snap) (k : Nat) (st : SM) : Prop := st.1 8 = s.1 8 + k ∧ eqx [8] [9, 10, 11, 12, 13, 14] s st ∧ OLD (fun y => y < s.1 8) s st ∧ (∀ (j : Nat) (x : Int), j < k → (fl u.1)[j]? = some x → st.2 9 (s.1 8 + j) = u.2.2 9 x ∧ st.2 10 (s.1 8 + j) = u.2.2 10 x ∧ st.2 11 (s.1 8 + j) = u.2.2 11 x) ∧ ∀ (j : Nat) (x : Int) (i : Nat), 0 < j → j < k → (fl u.1)[j]? = some x → (fl u.1)[i]? = some (u.2.2 12 x) → st.2 12 (s.1 8 + j) = s.1 8 + i ∧ st.2 13 (s.1 8 + j) = u.2.2 13 x ∧ st.2 14 (3 * (s.1 8 + i) + u.2.2 13 x) = s.1 8 + j
theorem FBs_born {s st : SM} {u : Snap} {k : Nat} {x : Int} (h : FBs s u k st) (hk : (fl u.1)[k]? = some x) (hb : nvl (u.2.2 9 x) (u.2.2 10 x) = u.2.2 10 x ∧ kvl (u.2.2 9 x) (u.2.2 11 x) = u.2.2 11 x) : (bornU st (u.2.2 9 x) (u.2.2 10 x) (u.2.2 11 x)).1 8 = s.1 8 + (k + 1 : Nat) ∧ eqx [8] [9, 10, 11, 12, 13, 14] s (bornU st (u.2.2 9 x) (u.2.2 10 x) (u.2.2 11 x)) ∧ OLD (fun y => y < s.1 8) s (bornU st (u.2.2 9 x) (u.2.2 10 x) (u.2.2 11 x)) ∧ (∀ (j : Nat) (z : Int), j < k + 1 → (fl u.1)[j]? = some z → (bornU st (u.2.2 9 x) (u.2.2 10 x) (u.2.2 11 x)).2 9 (s.1 8 + j) = u.2.2 9 z ∧ (bornU st (u.2.2 9 x) (u.2.2 10 x) (u.2.2 11 x)).2 10 (s.1 8 + j) = u.2.2 10 z ∧ (bornU st (u.2.2 9 x) (u.2.2 10 x) (u.2.2 11 x)).2 11 (s.1 8 + j) = u.2.2 11 z) ∧ ∀ (j : Nat) (z : Int) (i : Nat), 0 < j → j < k → (fl u.1)[j]? = some z → (fl u.1)[i]? = some (u.2.2 12 z) → (bornU st (u.2.2 9 x) (u.2.2 10 x) (u.2.2 11 x)).2 12 (s.1 8 + j) = s.1 8 + i ∧ (bornU st (u.2.2 9 x) (u.2.2 10 x) (u.2.2 11 x)).2 13 (s.1 8 + j) = u.2.2 13 z ∧ (bornU st (u.2.2 9 x) (u.2.2 10 x) (u.2.2 11 x)).2 14 (3 * (s.1 8 + i) + u.2.2 13 z) = s.1 8 + j := by
  obtain ⟨f1, f2, f3, f4, f5⟩ := h
  have he := bornU_e (s := st) (so := u.2.2 9 x) (v := u.2.2 10 x) (k := u.2.2 11 x)
  have ho := bornU_o (s := st) (so := u.2.2 9 x) (v := u.2.2 10 x) (k := u.2.2 11 x)
  have ha := bornU_at (s := st) (so := u.2.2 9 x) (v := u.2.2 10 x) (k := u.2.2 11 x)
  refine ⟨by rw [bornU_8]; push_cast; omega, (f2.up (fun y q => q) (fun y q => q)).tr (he.up (fun y q => q) (fun y q => by simp at q ⊢; omega)), fun y hy => ?_, fun j z hj hz => ?_, fun j z i j0 hj hz hi => ?_⟩
  · have hy : y < s.1 8 := hy
    obtain ⟨⟨g1, g2, g3⟩, ⟨g4, g5⟩, g6⟩ := f3 y hy
    obtain ⟨⟨r1, r2, r3⟩, ⟨r4, r5⟩, r6⟩ := ho y (by show y < st.1 8; omega)
    exact ⟨⟨r1.trans g1, r2.trans g2, r3.trans g3⟩, ⟨r4.trans g4, r5.trans g5⟩, fun i i0 i3 => (r6 i i0 i3).trans (g6 i i0 i3)⟩
  · by_cases q : j = k
    · subst q
      rw [hk] at hz
      cases hz
      rw [← f1, ha.1, ha.2.1, ha.2.2]
      exact ⟨rfl, hb⟩
    · obtain ⟨⟨r1, r2, r3⟩, -⟩ := ho (s.1 8 + j) (by show s.1 8 + (j : Int) < st.1 8; omega)
      rw [r1, r2, r3]
      exact f4 j z (by omega) hz
  · rw [he.2 12 (by decide), he.2 13 (by decide), he.2 14 (by decide)]
    exact f5 j z i j0 hj hz hi
theorem FBs_part {s st : SM} {u : Snap} {k i0 : Nat} {x : Int} (hu : AT (u.2.2 9) (u.2.2 14) (u.2.2 12) (u.2.2 13) (u.2.1 8) u.1 ∧ (fl u.1).Nodup) (hk : (fl u.1)[k]? = some x) (hk0 : 0 < k) (hi0 : (fl u.1)[i0]? = some (u.2.2 12 x)) (h1 : st.1 8 = s.1 8 + (k + 1 : Nat)) (h2 : eqx [8] [9, 10, 11, 12, 13, 14] s st) (h3 : OLD (fun y => y < s.1 8) s st) (h4 : ∀ (j : Nat) (z : Int), j < k + 1 → (fl u.1)[j]? = some z → st.2 9 (s.1 8 + j) = u.2.2 9 z ∧ st.2 10 (s.1 8 + j) = u.2.2 10 z ∧ st.2 11 (s.1 8 + j) = u.2.2 11 z) (h5 : ∀ (j : Nat) (z : Int) (i : Nat), 0 < j → j < k → (fl u.1)[j]? = some z → (fl u.1)[i]? = some (u.2.2 12 z) → st.2 12 (s.1 8 + j) = s.1 8 + i ∧ st.2 13 (s.1 8 + j) = u.2.2 13 z ∧ st.2 14 (3 * (s.1 8 + i) + u.2.2 13 z) = s.1 8 + j) : FBs s u (k + 1) (partU st (s.1 8 + i0) (u.2.2 13 x) (s.1 8 + k)) := by
  have ndi : ∀ (a b : Nat) (z : Int), (fl u.1)[a]? = some z → (fl u.1)[b]? = some z → a = b := fun a b z ha hb => by
    obtain ⟨a1, a2⟩ := List.getElem?_eq_some_iff.mp ha
    obtain ⟨b1, b2⟩ := List.getElem?_eq_some_iff.mp hb
    exact (List.getElem_inj hu.2).mp (a2.trans b2.symm)
  obtain ⟨r0, hr0⟩ := fl_hd _ hu.1
  have hd0 : (fl u.1)[0]? = some (hd u.1) := by rw [hr0]; rfl
  have pl3 : ∀ (j : Nat) (z : Int), 0 < j → (fl u.1)[j]? = some z → (0 ≤ u.2.2 13 z ∧ u.2.2 13 z < 3) ∧ u.2.2 14 (3 * u.2.2 12 z + u.2.2 13 z) = z := fun j z j0 hz => by
    have hne : z ≠ hd u.1 := fun q => by
      have := ndi j 0 _ (by rw [hz, q]) hd0
      omega
    obtain ⟨m1, m2, m3⟩ := (AT_mem u.1 hu.1 z (List.mem_of_getElem? hz)).2.2.2 hne
    have := pO_in (u.2.2 9 (u.2.2 12 z))
    exact ⟨by omega, m3⟩
  have he := partU_e (s := st) (b := s.1 8 + i0) (i := u.2.2 13 x) (c := s.1 8 + k)
  have hp := pl3 k x hk0 hk
  refine ⟨(he.1 8 (by decide)).trans h1, (h2.up (fun y q => q) (fun y q => q)).tr (he.up (fun y q => by cases q) (fun y q => by simp at q ⊢; omega)), fun y hy => ?_, fun j z hj hz => ?_, fun j z i j0 hj hz hi => ?_⟩
  · have hy : y < s.1 8 := hy
    obtain ⟨⟨g1, g2, g3⟩, ⟨g4, g5⟩, g6⟩ := h3 y hy
    obtain ⟨⟨r1, r2, r3⟩, ⟨r4, r5⟩, r6⟩ := partU_o (s := st) (b := s.1 8 + i0) (i := u.2.2 13 x) (c := s.1 8 + k) hp.1 y ⟨by omega, by omega⟩
    exact ⟨⟨r1.trans g1, r2.trans g2, r3.trans g3⟩, ⟨r4.trans g4, r5.trans g5⟩, fun i i0 i3 => (r6 i i0 i3).trans (g6 i i0 i3)⟩
  · rw [he.2 9 (by decide), he.2 10 (by decide), he.2 11 (by decide)]
    exact h4 j z hj hz
  · by_cases q : j = k
    · subst q
      rw [hk] at hz
      cases hz
      have := ndi i i0 _ hi hi0
      subst this
      obtain ⟨a1, a2, a3⟩ := partU_at (s := st) (b := s.1 8 + i) (i := u.2.2 13 x) (c := s.1 8 + j)
      exact ⟨a2, a3, a1⟩
    · obtain ⟨c1, c2, c3⟩ := h5 j z i j0 (by omega) hz hi
      have hz3 := pl3 j z j0 hz
      refine ⟨?_, ?_, ?_⟩
      · unfold partU; simp only [ua_2]; rw [if_neg (by omega), if_neg (by omega), if_neg (by omega)]; exact c1
      · unfold partU; simp only [ua_2]; rw [if_neg (by omega), if_neg (by omega), if_neg (by omega)]; exact c2
      · unfold partU; simp only [ua_2]; rw [if_neg (by omega), if_neg (by omega), if_neg (fun w => ?_)]; · exact c3
        have hii : i = i0 := by omega
        have hpp : u.2.2 13 z = u.2.2 13 x := by omega
        rw [hii, hi0] at hi
        have hup : u.2.2 12 x = u.2.2 12 z := by injection hi
        have : z = x := by rw [← hz3.2, ← hp.2, hup, hpp]
        exact q (ndi j k z hz (by rw [this]; exact hk))
section
variable {iv : List (Int × Int)} {L : Nat} {h0 : MH} {A A' : Int → Nat} {c e : SC} {s s' w : SM} {t : Term} {d : Nat} {P : Int → Prop} {Q : Int → Int → Prop} {K : List Snap}
theorem op_uB {fr z : Nat} {i : Int} (h : OP A c s P Q) (hf : 353 ≤ fr) (hn : ∀ b, 0 ≤ b → b < s.1 8 → A b + 1 ≠ fr) : OP A (uB c fr i z) s P Q := by
  obtain ⟨⟨hX, hN, hI⟩, ⟨hL, hP⟩, r⟩ := h
  refine ⟨⟨?_, hN, hI⟩, ⟨hL, fun b j hb => ?_⟩, r⟩
  · obtain ⟨g1, ⟨g2, g3⟩, g4, g5⟩ := hX
    refine ⟨g1, ⟨fun j hj => ?_, fun j hj => ?_⟩, g4, g5⟩
    · rw [aR_uB, if_neg (by omega)]; exact g2 j hj
    · rw [aR_uB, if_neg (by omega)]; exact g3 j hj
  · have := (hI.2 b j hb).1
    rw [aR_uB, if_neg (fun q => hn b this.1 this.2 q.1)]
    exact hP b j hb
theorem hang_f {x y i : Int} {F : SC → Prop} (h : OP A c s P Q) (hx : 0 ≤ x ∧ x < s.1 8) (hy : 0 ≤ y ∧ y < s.1 8) (hi : 0 ≤ i ∧ i < pO (s.2 9 x)) (hF : ∀ e, OP A e (partU s x i y) (fun b => P b ∨ b = y) (fun b j => Q b j ∨ (b = x ∧ j = i)) → CX lys [1103] c e → RMk 0 0 c e → (∀ a k, a ≠ A x + 1 → aR e a k = aR c a k) → F e) : ck iv L h0 d 188 [vr (A x), vi i, vr (A y)] c (qv F) := by
  obtain ⟨p1, p2⟩ := op_part h hx hy hi
  obtain ⟨⟨n1, n2, n3, n4, n5, n6, n7, n8⟩, n9, n10⟩ := h.1.2.1.2 x hx.1 hx.2
  obtain ⟨⟨m1, m2, m3, m4, m5, m6, m7, m8⟩, m9, m10⟩ := h.1.2.1.2 y hy.1 hy.2
  refine C188 ⟨n1, by rw [n7]; exact n2, by rw [n7, n3]; exact hi, Or.inr m1, m1, ?_⟩
  rw [n7]
  exact hF _ p1 p2 RMk.rf (fun a k ha => by rw [aR_uI, aR_uR, aR_uB, if_neg (fun w => ha w.1)])
def biY : List (Nat × Nat) := (8, 4) :: lys
/-- what bornInto() leaves -/
def BIN (A : Int → Nat) (c : SC) (s : SM) (u : Snap) (A' : Int → Nat) (e : SC) (st : SM) (k : Nat) (P : Int → Prop) (Q : Int → Int → Prop) : Prop := OP A' e st (fun x => P x ∨ (s.1 8 < x ∧ x < s.1 8 + k)) (fun b i => Q b i ∨ ∃ (j : Nat) (x : Int) (i' : Nat), 0 < j ∧ j < k ∧ (fl u.1)[j]? = some x ∧ (fl u.1)[i']? = some (u.2.2 12 x) ∧ b = s.1 8 + i' ∧ i = u.2.2 13 x) ∧ FBs s u k st ∧ EXT A A' (s.1 8) ∧ CX biY [1103] c e ∧ RMk (2 * k + 1) (17 * k + 64) c e ∧ NWc (nxt c) e
theorem bornInto_ok {p : Nat} {u : Snap} {F : Nat → SC → Prop} (hp : p < 6) (hO : OP A c s P Q) (hC : CPc c (199 + 6 * p) u) (hu : (AT (u.2.2 9) (u.2.2 14) (u.2.2 12) (u.2.2 13) (u.2.1 8) u.1 ∧ full (u.2.2 9) u.1 ∧ (fl u.1).Nodup ∧ (fl u.1).length ≤ 60)) (hb : ∀ x, x ∈ fl u.1 → (0 ≤ u.2.2 9 x ∧ u.2.2 9 x < 16) ∧ nvl (u.2.2 9 x) (u.2.2 10 x) = u.2.2 10 x ∧ kvl (u.2.2 9 x) (u.2.2 11 x) = u.2.2 11 x) (h30 : s.1 8 + (fl u.1).length ≤ 3000) (hF : ∀ A' e st, BIN A c s u A' e st (fl u.1).length P Q → F (A' (s.1 8)) e) : ck iv L h0 (d + 2) 161 [vr (199 + 6 * p), vr 70] c (qa F) := by
  obtain ⟨o1, o2, -⟩ := hO.1.1.2.1.2 p hp
  have h353 := hO.1.1.2.2.1
  have hB8 := hO.2.2.2.2
  obtain ⟨u1, u2, u3, u4⟩ := hu
  obtain ⟨r0, hr0⟩ := fl_hd _ u1
  have hln : 0 < (fl u.1).length := by rw [hr0]; simp
  have h5 := hC.1
  have ndi : ∀ (a b : Nat) (z : Int), (fl u.1)[a]? = some z → (fl u.1)[b]? = some z → a = b := fun a b z ha hb => by
    obtain ⟨a1, a2⟩ := List.getElem?_eq_some_iff.mp ha
    obtain ⟨b1, b2⟩ := List.getElem?_eq_some_iff.mp hb
    exact (List.getElem_inj u3).mp (a2.trans b2.symm)
  have hd0 : (fl u.1)[0]? = some (hd u.1) := by rw [hr0]; rfl
  have hC4 : ∀ (k : Nat) (x : Int), 0 < k → (fl u.1)[k]? = some x → (∃ j : Nat, j < k ∧ aI c (203 + 6 * p) k = j ∧ (fl u.1)[j]? = some (u.2.2 12 x)) ∧ aI c (204 + 6 * p) k = u.2.2 13 x := fun k x k0 hk => by
    have := (hC.2 k x hk).2 k0
    rw [show 199 + 6 * p + 4 = 203 + 6 * p by omega, show 199 + 6 * p + 5 = 204 + 6 * p by omega] at this
    exact this
  have key : ∀ (m q : List Int) (A' : Int → Nat) (f : SC) (st : SM), fl u.1 = q ++ m → BIN A c s u A' f st q.length P Q → (kl f (nxt c) = 103 ∧ le f (nxt c) = (fl u.1).length) → (∀ b, 0 ≤ b → b < st.1 8 → A' b + 1 ≠ nxt c) → (∀ j : Nat, j < q.length → aR f (nxt c) j = A' (s.1 8 + j)) → nxt c < nxt f → wk iv L h0 (d + 2) 161 10 [lr (199 + 6 * p), lr 70, lr (nxt c), li q.length] [] f (qa F) := by
    intro m
    induction m with
    | nil =>
      intro q A' f st hq hBI hfr hne hfa hnf
      rw [List.append_nil] at hq
      obtain ⟨hOf, hFB, hE, hx, hr, hW⟩ := id hBI
      obtain ⟨z1, z2, -⟩ := hOf.1.1.2.1.2 p hp
      have hky : ky (199 + 6 * p) (kl c (199 + 6 * p)) = 2 := by rw [o2]; unfold ky; rw [if_neg (by omega)]
      have e5 : fI f (199 + 6 * p) 5 = (fl u.1).length := by rw [hx.i (by omega) (by rw [hky]; decide)]; exact h5
      refine C161_10 ⟨z2, fun _ => ⟨fun w => by rw [e5] at w; omega, fun _ => ⟨hfr.1, by rw [hfr.2]; omega, ?_⟩⟩, fun w => by rw [e5, hq] at w; omega⟩
      have := hfa 0 (by rw [← hq]; exact hln)
      rw [show ((0 : Nat) : Int) = 0 from rfl, Int.add_zero] at this
      rw [this]
      rw [← hq] at hBI
      exact hF A' f st hBI
    | cons x m ih =>
      intro q A' f st hq hBI hfr hne hfa hnf
      obtain ⟨hOf, hFB, hE, hx, hr, hW⟩ := id hBI
      obtain ⟨z1, z2, ⟨z3, z4, z5, z6, z7⟩, ⟨z8, z9, z10, z11, z12⟩, z13, z14, z15, z16, z17⟩ := hOf.1.1.2.1.2 p hp
      have hky : ky (199 + 6 * p) (kl c (199 + 6 * p)) = 2 := by rw [o2]; unfold ky; rw [if_neg (by omega)]
      have e5 : fI f (199 + 6 * p) 5 = (fl u.1).length := by rw [hx.i (by omega) (by rw [hky]; decide)]; exact h5
      have hxm : x ∈ fl u.1 := by rw [hq]; simp
      have hget : (fl u.1)[q.length]? = some x := by rw [hq]; simp
      have hlen : (fl u.1).length = q.length + (m.length + 1) := by rw [hq]; simp
      obtain ⟨⟨c1, c2, c3⟩, c4⟩ := hC.2 q.length x hget
      have row : ∀ a, 199 < a → a < 235 → aI f a = aI c a := fun a a1 a2 => hx.ai (by omega) (by unfold rk; rw [if_pos (by omega)]; simp; omega)
      have r1 : aI f (200 + 6 * p) (q.length : Int) = u.2.2 9 x := by rw [row _ (by omega) (by omega), ← c1, show 199 + 6 * p + 1 = 200 + 6 * p by omega]
      have r2 : aI f (201 + 6 * p) (q.length : Int) = u.2.2 10 x := by rw [row _ (by omega) (by omega), ← c2, show 199 + 6 * p + 2 = 201 + 6 * p by omega]
      have r3 : aI f (202 + 6 * p) (q.length : Int) = u.2.2 11 x := by rw [row _ (by omega) (by omega), ← c3, show 199 + 6 * p + 3 = 202 + 6 * p by omega]
      obtain ⟨b1, b2, b3⟩ := hb x hxm
      obtain ⟨f1, f2, f3, f4, f5⟩ := hFB
      have b8 : fI f 70 4 = st.1 8 := hOf.2.2.1.2.1
      have hOB := hOf.2.2.2.2
      have h3f := hOf.1.1.2.2.1
      refine C161_10 ⟨z2, fun w => by rw [e5] at w; omega, fun _ => ?_⟩
      rw [z3, z4, z5, z8, z9, z10, z13, z14, z15, r1, r2, r3]
      refine ⟨rfl, by omega, rfl, by omega, rfl, by omega, hOf.1.1.dk.2.1, born_c hOf.1.1 (by omega) b1 (fun f2' hb2 => ?_)⟩
      have hb2' : BORN f f2' (u.2.2 9 x) (nvl (u.2.2 9 x) (u.2.2 10 x)) (kvl (u.2.2 9 x) (u.2.2 11 x)) := by rw [b2, b3]; exact hb2
      obtain ⟨hO2, hnew, hE2⟩ := op_born hOf hb2' (by omega) b1
      obtain ⟨g1, g2, g3, g4, g5⟩ := FBs_born ⟨f1, f2, f3, f4, f5⟩ hget ⟨b2, b3⟩
      have hb2n := hb2.2.2.2.1.1
      have hx2 := hb2.1
      have n2 := hb2.2.1
      generalize hst2 : bornU st (u.2.2 9 x) (u.2.2 10 x) (u.2.2 11 x) = st2 at hO2 g1 g2 g3 g4 g5
      have c3 : kl f2' (nxt c) = 103 ∧ le f2' (nxt c) = (fl u.1).length := ⟨(hx2.k hnf).trans hfr.1, (hx2.l hnf).trans hfr.2⟩
      have c4 : aR f2' (nxt c) = aR f (nxt c) := hx2.ar hnf (by simp)
      generalize hA2 : A1 A' (st.1 8) (nxt f) = A2 at hO2 hnew hE2
      have hn2 : ∀ b, 0 ≤ b → b < st2.1 8 → A2 b + 1 ≠ nxt c := fun b b0 b1 => by
        by_cases q : b < st.1 8
        · rw [hE2 b q]; exact hne b b0 q
        · rw [show b = st.1 8 by omega, hnew]; omega
      have hO3 := op_uB (fr := nxt c) (z := nxt f) (i := (q.length : Int)) hO2 h353 hn2
      have hxg : CX biY [1103] c (uB f2' (nxt c) q.length (nxt f)) := (hx.tr (hx2.up (fun y hy => by simp at hy; subst hy; decide) (fun _ w => by cases w))).uB (fun w => by omega)
      have hW3 : NWc (nxt c) (uB f2' (nxt c) q.length (nxt f)) := (show NWc (nxt c) f2' from hW.b h353 hb2)
      have hr3 : RMk (2 * (q.length + 1) + 1) (17 * (q.length + 1) + 64) c (uB f2' (nxt c) q.length (nxt f)) := ⟨by rw [nx_uB]; have := hr.1; omega, by rw [sl_uB]; have := hr.2; omega⟩
      have hEg : EXT A A2 (s.1 8) := hE.tr hE2 (by omega)
      have hfr3 : kl (uB f2' (nxt c) q.length (nxt f)) (nxt c) = 103 ∧ le (uB f2' (nxt c) q.length (nxt f)) (nxt c) = (fl u.1).length := c3
      have hfa3 : ∀ j : Nat, j < q.length + 1 → aR (uB f2' (nxt c) q.length (nxt f)) (nxt c) j = A2 (s.1 8 + j) := fun j hj => by
        rw [aR_uB]
        by_cases w : j = q.length
        · rw [if_pos ⟨rfl, by omega⟩, w, ← f1, hnew]
        · rw [if_neg (by omega), c4, hfa j (by omega)]
          exact (hE2 _ (by omega)).symm
      have hlq : (q ++ [x]).length = q.length + 1 := by simp
      have hlq' : (((q ++ [x]).length : Nat) : Int) = q.length + 1 := by rw [hlq]; push_cast; rfl
      refine ⟨c3.1, by rw [c3.2]; omega, Or.inr hb2n, fun w => ⟨by omega, ?_⟩, fun w => ?_⟩
      · have hq0 : q.length = 0 := by omega
        rw [← hlq']
        refine ih (q ++ [x]) A2 _ st2 (by rw [hq]; simp) ⟨?_, ⟨by rw [g1, hlq], g2, g3, by rw [hlq]; exact g4, fun j z i j0 hj => by rw [hlq] at hj; omega⟩, hEg, hxg, by rw [hlq]; exact hr3, hW3⟩ hfr3 hn2 (by rw [hlq]; exact hfa3) (by rw [nx_uB]; omega)
        refine op_mo hO3 (fun y hy => ?_) (fun y i hy => ?_)
        · rcases hy with hy | hy
          · exact Or.inl hy
          · rw [hlq] at hy; push_cast at hy; omega
        · rcases hy with hy | ⟨j, z, i', j0, j1, -⟩
          · exact Or.inl hy
          · rw [hlq] at j1; omega
      · have hq0 : 0 < q.length := by omega
        obtain ⟨⟨j, j1, j2, j3⟩, j4⟩ := hC4 _ x hq0 hget
        have kk : ∀ a, a < 353 → kl f2' a = kl c a ∧ le f2' a = le c a := fun a ha => ⟨(hx2.k (by omega)).trans (hx.k (by omega)), (hx2.l (by omega)).trans (hx.l (by omega))⟩
        have r4 : aI f2' (203 + 6 * p) (q.length : Int) = j := by rw [hx2.ai (by omega) (by simp), row _ (by omega) (by omega), j2]
        have r5 : aI f2' (204 + 6 * p) (q.length : Int) = u.2.2 13 x := by rw [hx2.ai (by omega) (by simp), row _ (by omega) (by omega), j4]
        have hX2 : FIX f2' := hO2.1.1
        obtain ⟨z1', z2', ⟨z3', z4', z5', z6', z7'⟩, ⟨z8', z9', z10', z11', z12'⟩, z13', z14', z15', z16', z17'⟩ := hX2.2.1.2 p hp
        have hjA : aR (uB f2' (nxt c) q.length (nxt f)) (nxt c) (j : Int) = A2 (s.1 8 + j) := hfa3 j (by omega)
        have hkA : aR (uB f2' (nxt c) q.length (nxt f)) (nxt c) (q.length : Int) = A2 (st.1 8) := by rw [hfa3 q.length (by omega), f1]
        have hxh : x ≠ hd u.1 := fun w' => by
          have := ndi q.length 0 _ (by rw [hget, w']) hd0
          omega
        obtain ⟨m1, m2, m3⟩ := (AT_mem u.1 u1 x hxm).2.2.2 hxh
        have hjB : 0 ≤ s.1 8 + (j : Int) ∧ s.1 8 + (j : Int) < st2.1 8 := by omega
        have h9j : st2.2 9 (s.1 8 + j) = u.2.2 9 (u.2.2 12 x) := (g4 j _ (by omega) j3).1
        have hkj : kl f2' (A2 (s.1 8 + j)) = 5 := (hO2.1.2.1.2 _ hjB.1 hjB.2).1.1
        rw [z7', z12', z17', z6', z11', z16', r4, r5, hjA, hkA]
        refine ⟨z2', rfl, by omega, by rw [c3.2]; omega, rfl, by omega, hkj, ?_⟩
        refine hang_f hO3 hjB ⟨by omega, by omega⟩ (by rw [h9j]; exact m2) (fun g G1 G2 G3 G4 => ⟨by omega, ?_⟩)
        have hG2 : CX biY [1103] (uB f2' (nxt c) q.length (nxt f)) g := G2.up (fun y hy => List.mem_cons_of_mem _ hy) (fun _ w => w)
        have hAe : ∀ i, aR g (nxt c) i = aR (uB f2' (nxt c) q.length (nxt f)) (nxt c) i := fun i => G4 _ _ (fun w' => hn2 _ hjB.1 hjB.2 w'.symm)
        have hng : nxt c < nxt (uB f2' (nxt c) q.length (nxt f)) := by rw [nx_uB]; omega
        rw [← hlq']
        have hF2 := FBs_part ⟨u1, u3⟩ hget hq0 j3 g1 g2 g3 g4 (by exact g5)
        rw [f1] at G1
        refine ih (q ++ [x]) A2 g _ (by rw [hq]; simp) ⟨?_, by rw [hlq]; exact hF2, hEg, hxg.tr hG2, by rw [hlq]; exact (hr3.tr G3).up (by omega) (by omega), hW3.x h353 hG2 G3 ⟨by decide, by decide⟩⟩ ⟨(hG2.k hng).trans hfr3.1, (hG2.l hng).trans hfr3.2⟩ ?_ (fun i hi => by rw [hAe]; rw [hlq] at hi; exact hfa3 i hi) (by have := hG2.n; omega)
        · refine op_mo G1 (fun y hy => ?_) (fun y i hy => ?_)
          · rcases hy with hy | hy
            · exact Or.inl (Or.inl hy)
            · rw [hlq] at hy; push_cast at hy
              by_cases w' : y = s.1 8 + q.length
              · exact Or.inr w'
              · exact Or.inl (Or.inr (by omega))
          · rcases hy with hy | ⟨j', z, i', j0, j1', j2', j3', j4', j5'⟩
            · exact Or.inl (Or.inl hy)
            · by_cases w' : j' = q.length
              · subst w'
                rw [hget] at j2'
                cases j2'
                have := ndi i' j _ j3' j3
                subst this
                exact Or.inr ⟨j4', j5'⟩
              · rw [hlq] at j1'
                exact Or.inl (Or.inr ⟨j', z, i', j0, by omega, j2', j3', j4', j5'⟩)
        · intro b b0 b1
          exact hn2 b b0 (by have : (partU st2 (s.1 8 + j) (u.2.2 13 x) (s.1 8 + q.length)).1 8 = st2.1 8 := partU_e.1 8 (by decide); omega)
  refine C161 ⟨o2, by rw [h5]; omega, h353, ?_⟩
  rw [h5]
  have hx0 : CX [] [] c (nA c 3 (fl u.1).length) := CX.rf.nA
  have hOn := op_x hO hx0 (by simp) (by simp) (by simp) (by simp) (by simp) (by simp)
  refine key (fl u.1) [] A _ s rfl ⟨op_mo hOn (fun y hy => ?_) (fun y i hy => ?_), ⟨by simp, eqx.rf, fun y _ => ⟨⟨rfl, rfl, rfl⟩, ⟨rfl, rfl⟩, fun _ _ _ => rfl⟩, fun j z hj => by simp at hj, fun j z i j0 hj => by simp at hj⟩, EXT.rf, hx0.up (fun _ w => by cases w) (fun _ w => by cases w), ⟨by rw [nx_nA]; simp, by rw [sl_nA]; simp; omega⟩, fun a a1 a2 a3 => ?_⟩ ⟨by rw [kl_nA, if_pos rfl], by rw [le_nA, if_pos rfl]⟩ (fun b b0 b1 => ?_) (fun j hj => by simp at hj) (by rw [nx_nA]; omega)
  · rcases hy with hy | hy
    · exact hy
    · simp at hy; omega
  · rcases hy with hy | ⟨j, z, i', j0, j1, -⟩
    · exact hy
    · simp at j1
  · rw [nx_nA] at a2
    rw [kl_nA, if_pos (by omega)] at a3
    omega
  · have := (hO.1.2.1.2 b b0 b1).2.1
    omega
end
end
section
/-! fill() by the desk, whole. -/
/-- the sheet behind a fill -/
def filV (s st : SM) : SM := us (replU st (s.1 16) (s.1 8)) 16 (s.1 8)
/-- what fill() leaves on the desk -/
def FIL (A : Int → Nat) (c : SC) (s : SM) (t : Term) (K : List Snap) (u : Snap) (e : SC) : Prop := ∃ A' st, R1 A' e (filV s st) (filT s t u) ∧ FBs s u (fl u.1).length st ∧ EXT A A' (s.1 8) ∧ CX unY acR c e ∧ RMk 130 1200 c e ∧ KSc A' e (push K (t, s)) ∧ NWc (nxt c) e ∧ fI e 64 15 = fI c 64 15 ∧ fR e (A (s.1 16)) 12 = A' (s.1 8) ∧ ∀ a, a < nxt c → a ≠ A (s.1 16) → kl c a = 5 → fR e a 12 = fR c a 12
theorem snR_lt : ∀ a, a ∈ snR → a < 199 := fun a ha => by
  have : snR.all (fun a => decide (a < 199)) = true := by decide
  exact of_decide_eq_true (List.all_eq_true.mp this a ha)
/-- parts are not the first -/
theorem AT_kid {so pa up pl : Int → Int} {B : Int} : ∀ (t : Term), AT so pa up pl B t → (fl t).Nodup → ∀ x i, x ∈ fl t → 0 ≤ i → i < pO (so x) → (x = hd t → i < na t) → pa (3 * x + i) ≠ hd t := by
  intro t
  induction t with
  | index n =>
    intro h _ x i hx i0 i1 i2
    have hx := List.mem_singleton.mp hx
    have := i2 hx
    have e : na (Term.index n) = 0 := rfl
    omega
  | add t y ih ihy =>
    intro h hnd x i hx i0 i1 i2
    obtain ⟨h1, h2, h3, h4, h5, h6, h7⟩ := h
    have e : fl (Term.add t y) = fl t ++ fl y := rfl
    have en : na (Term.add t y) = na t + 1 := rfl
    have eh : hd (Term.add t y) = hd t := rfl
    rw [e] at hnd hx
    obtain ⟨d1, d2, d3⟩ := List.nodup_append.mp hnd
    rw [eh] at i2 ⊢
    rw [en] at i2
    have ht := hd_mem t h1
    rcases List.mem_append.mp hx with hx | hx
    · by_cases q : x = hd t
      · by_cases q2 : i < na t
        · exact ih h1 d1 x i hx i0 i1 (fun _ => q2)
        · have q3 := i2 q
          have : i = na t := by omega
          rw [q, this, h5]
          exact fun w => d3 _ ht _ (hd_mem y h2) w.symm
      · exact ih h1 d1 x i hx i0 i1 (fun w => absurd w q)
    · have hm := ((AT_mem y h2 x hx).2.2.1 i i0 i1 (fun w => by rw [h3, ← w]; exact i1)).1
      exact fun w => d3 _ ht _ hm w.symm
  | _ => intro h; exact h.elim
section
variable {iv : List (Int × Int)} {L : Nat} {h0 : MH} {A A' : Int → Nat} {c e : SC} {s s' w st : SM} {t : Term} {d : Nat} {P : Int → Prop} {Q : Int → Int → Prop} {K : List Snap} {u : Snap}
theorem filV_o {f : Nat} (h : f ≠ 12 ∧ f ≠ 13 ∧ f ≠ 14) : (filV s st).2 f = st.2 f := replU_e.2 f (by simp; omega)
theorem fil_old (h : FBs s u (fl u.1).length st) (hT : AFT s t) : ((filV s st).1 8 = s.1 8 + (fl u.1).length ∧ (filV s st).1 16 = s.1 8 ∧ (filV s st).1 2 = s.1 2) ∧ (∀ y, y < s.1 8 → (filV s st).2 9 y = s.2 9 y ∧ (filV s st).2 10 y = s.2 10 y ∧ (filV s st).2 11 y = s.2 11 y) ∧ ∀ (j : Nat) (x : Int), (fl u.1)[j]? = some x → (filV s st).2 9 (s.1 8 + j) = u.2.2 9 x ∧ (filV s st).2 10 (s.1 8 + j) = u.2.2 10 x ∧ (filV s st).2 11 (s.1 8 + j) = u.2.2 11 x := by
  obtain ⟨f1, f2, f3, f4, f5⟩ := h
  refine ⟨⟨(replU_e.1 8 (by decide)).trans f1, rfl, (replU_e.1 2 (by decide)).trans (f2.1 2 (by decide))⟩, fun y hy => ?_, fun j x hj => ?_⟩
  · rw [filV_o (by decide), filV_o (by decide), filV_o (by decide)]
    exact (f3 y hy).1
  · rw [filV_o (by decide), filV_o (by decide), filV_o (by decide)]
    exact f4 j x (List.getElem?_eq_some_iff.mp hj).1 hj
theorem fil_aft (h : FBs s u (fl u.1).length st) (hT : AFT s t) (hu : AT (u.2.2 9) (u.2.2 14) (u.2.2 12) (u.2.2 13) (u.2.1 8) u.1 ∧ full (u.2.2 9) u.1 ∧ (fl u.1).Nodup ∧ (fl u.1).length ≤ 60) (hb : ∀ x, x ∈ fl u.1 → bearOk (s.1 2) (u.2.2 9 x) (u.2.2 10 x) (u.2.2 11 x)) (hl : (fl t).length - 1 + (fl u.1).length ≤ 60 ∧ s.1 8 + (fl u.1).length ≤ 3000) : AFT (filV s st) (filT s t u) := by
  obtain ⟨⟨v8, v16, v2⟩, vo, vn⟩ := fil_old h hT
  obtain ⟨f1, f2, f3, f4, f5⟩ := h
  obtain ⟨hS, hN, hc⟩ := hT
  obtain ⟨b4, b5, b6, b7⟩ := hu
  have hct := hS.lt hc
  have h8 := hS.2.2.2.2.1
  have lp := List.length_pos_of_mem (hd_mem _ b4)
  have hBn : (((s.1 8).toNat : Nat) : Int) = s.1 8 := by omega
  have o12 : ∀ z, z < s.1 8 → st.2 12 z = s.2 12 z ∧ st.2 13 z = s.2 13 z := fun z hz => (f3 z hz).2.1
  obtain ⟨r1, r2, r3, r4, r5⟩ := replU_in (s1 := st) (b := s.1 8) hS hc (o12 _ hct.2.1).1 (o12 _ hct.2.1).2
  obtain ⟨l1, l2, l3⟩ := rlb_fl u.1 (s.1 8).toNat b4
  rw [hBn] at l2
  have hub : 3 * s.2 12 (s.1 16) + s.2 13 (s.1 16) < 3 * s.1 8 := by
    by_cases q : s.1 16 = hd t
    · have q1 := hS.2.2.2.2.2.2.1
      have q2 := hS.2.2.2.2.2.2.2
      rw [← q] at q1 q2
      omega
    · obtain ⟨u1, u2, u3⟩ := (AT_mem t hS.1 _ hc).2.2.2 q
      have := hS.lt u1
      have := pO_in (s.2 9 (s.2 12 (s.1 16)))
      omega
  have ndi : ∀ (a b : Nat) (z : Int), (fl u.1)[a]? = some z → (fl u.1)[b]? = some z → a = b := fun a b z ha hb => by
    obtain ⟨a1, a2⟩ := List.getElem?_eq_some_iff.mp ha
    obtain ⟨b1, b2⟩ := List.getElem?_eq_some_iff.mp hb
    exact (List.getElem_inj b6).mp (a2.trans b2.symm)
  obtain ⟨r0, hr0⟩ := fl_hd _ b4
  have hd0 : (fl u.1)[0]? = some (hd u.1) := by rw [hr0]; rfl
  have hpl : ∀ (k : Nat) (x : Int), 0 < k → (fl u.1)[k]? = some x → 0 ≤ u.2.2 13 x := fun k x k0 hk => by
    have hne : x ≠ hd u.1 := fun q => by
      have := ndi k 0 _ (by rw [hk, q]) hd0
      omega
    exact ((AT_mem u.1 b4 x (List.mem_of_getElem? hk)).2.2.2 hne).2.1.1
  have len := len_rp hS hc (rlb u.1 (s.1 8).toNat)
  have lfl : (fl (rlb u.1 (s.1 8).toNat)).length = (fl u.1).length := by rw [l1]; simp
  have hsp := sq_pos hS hc
  rw [lfl] at len
  have hat : ATs (filV s st) (rlb u.1 (s.1 8).toNat) := by
    refine AT_rlb u.1 (s.1 8).toNat b4 b6 (by rw [hBn, v8]; exact Int.le_refl _) (fun k x hk => ?_) (fun k x j k0 hk hj => ?_)
    · rw [hBn]; exact (vn k x hk).1
    · have hkl := (List.getElem?_eq_some_iff.mp hk).1
      obtain ⟨g1, g2, g3⟩ := f5 k x j k0 hkl hk hj
      have hp := hpl k x k0 hk
      have q4 := r4 (s.1 8 + k) (by omega)
      rw [hBn]
      exact ⟨q4.1.trans g1, q4.2.trans g2, (r5 _ (by omega)).trans g3⟩
  have vhd : na (rlb u.1 (s.1 8).toNat) = pO ((filV s st).2 9 (hd (rlb u.1 (s.1 8).toNat))) := by
    rw [l3, l2]
    have := (vn 0 (hd u.1) hd0).1
    rw [show s.1 8 + ((0 : Nat) : Int) = s.1 8 by omega] at this
    rw [this]
    exact b5
  refine ⟨SHT_rp (w := filV s st) hS hc ⟨by omega, by omega⟩ hat vhd (rlb_nd b4) (fun z hz hzt => ?_) (fun z hz hzn => ?_) ?_ ?_ ?_ (by omega), NB_new hN v2 (fun z z0 z1 => vo z z1) (fun z z0 z1 => ?_), ?_⟩
  · have := rlb_at b4 hz
    have := hS.lt hzt
    omega
  · have hzl := hS.lt hz
    have q1 := r4 z (by omega)
    have q2 := o12 z hzl.2.1
    exact ⟨(vo z hzl.2.1).1, q1.1.trans q2.1, q1.2.trans q2.2, fun i i0 i3 hi => (r5 _ hi).trans ((f3 z hzl.2.1).2.2 i i0 i3)⟩
  · rw [l2]; exact r1
  · intro q; rw [l2]; exact r2 q
  · rw [l2]
    show (replU st (s.1 16) (s.1 8)).1 15 = _
    rw [r3, f2.1 15 (by decide)]
  · have hk : (z - s.1 8).toNat < (fl u.1).length := by omega
    have g := vn _ _ (List.getElem?_eq_getElem hk)
    rw [show s.1 8 + (((z - s.1 8).toNat : Nat) : Int) = z by omega] at g
    have g2 := hb _ (List.mem_of_getElem? (List.getElem?_eq_getElem hk))
    unfold nodOk
    rw [g.1, g.2.1, g.2.2, v2]
    exact ⟨g2.1, g2.2.1, g2.2.2.1, g2.2.2.2.1⟩
  · rw [v16]
    have hm := hd_mem _ hat
    rw [l2] at hm
    exact len.2 _ hm
/-- judged anew -/
theorem settled_ok {F : SC → Prop} (h : OP A c s P Q) (hc : fR c 70 2 = A (s.1 16)) (hT : AFT s t) (hK : KIs s) (hP : ∀ x, x ∈ fl t → P x) (hQ : ∀ x i, x ∈ fl t → 0 ≤ i → i < pO (s.2 9 x) → Q x i) (hD : 231 ≤ d) (hF : ∀ e, R1 A e s t → CX sys srs c e → RMk 0 0 c e → F e) : ck iv L h0 d 51 [vr 64] c (qv F) := by
  obtain ⟨hS, hB, hcm⟩ := hT
  have hH := op_HG h hS hP hQ
  obtain ⟨⟨hX, hN, hI⟩, hLP, ⟨ht, h8, ht0, ht8⟩, hKI, hB8⟩ := h
  have hk := hX.dk
  have h3 := hX.2.2.1
  refine settle_ok hX hN hH hS hB hK hKI hD (fun e hxe hre hL hI2 hJ => ?_)
  refine hF e ⟨⟨hX.x hxe (by decide) (by decide), hN.x hxe (by decide) (by decide) (by decide) (by decide) (by decide), hH.x hN hS.m hX hxe (by decide) (by decide) (by decide) (by decide), hL⟩, ⟨?_, ?_⟩, hI2, hJ⟩ hxe hre
  · rw [hxe.r (a := 70) (by omega) (by rw [hk.2.1]; decide)]
    exact hc
  · rw [hxe.i (a := 70) (by omega) (by rw [hk.2.1]; decide)]
    exact h8
theorem fill_c {p : Int} {F : Int → SC → Prop} {Sh : Int → Option Snap} (h1 : R1 A c s t) (hT : AFT s t) (hK : KIs s) (hKS : KSc A c K) (hKP : ∀ u, u ∈ K → KP s u) (hSh : SHc c Sh) (hSL : ShL s Sh) (hr : 0 ≤ aI c 198 1 ∧ aI c 198 1 ≤ 600) (hD : 300 ≤ d) (H1 : filF s t Sh p = 1 → F (-1) c) (H2 : filF s t Sh p = 2 → F (-4) c) (H3 : filF s t Sh p = 3 → F (-3) (refC c 1)) (H4 : filF s t Sh p = 4 → F (-2) c) (H0 : ∀ u, filF s t Sh p = 0 → Sh p = some u → ∀ e, FIL A c s t K u e → F (s.1 8) e) : ck iv L h0 d 20 [vr 64, vi p] c (qi F) := by
  obtain ⟨d, rfl⟩ : ∃ k, d = k + 1 + 2 := ⟨d - 3, by omega⟩
  obtain ⟨⟨d1, d2, d3, d4, d5⟩, e1, e2, e3, e4, e5, e6⟩ := h1.cur hT
  have hS := hT.1
  have hB := hS.2.2.2.2.1
  have hlp := List.length_pos_of_mem hT.2.2
  have hll := hS.2.2.2.1
  have hk : fR c 64 6 = 193 ∧ kl c 193 = 105 ∧ le c 193 = 6 := by simp only [h1.1.1.1]; exact ⟨trivial, trivial, trivial⟩
  refine C20 (C41 ⟨fun q => ⟨fun w => absurd rfl w, fun _ => H1 (by unfold filF; rw [if_neg (by omega)])⟩, fun q => ⟨fun q2 => ⟨fun w => absurd rfl w, fun _ => H1 (by unfold filF; rw [if_neg (by omega)])⟩, fun q2 => ⟨fun _ => ?_, fun w => absurd w (by decide)⟩⟩⟩)
  obtain ⟨i, rfl⟩ : ∃ i : Nat, p = i := ⟨p.toNat, by omega⟩
  have hi : i < 6 := by omega
  obtain ⟨o1, o2, -⟩ := h1.1.1.2.1.2 i hi
  have h353 := h1.1.1.2.2.1
  rw [hk.1, hk.2.1, hk.2.2, o1, o2, d3, e1, e2, e3, e6]
  refine ⟨d1, d2, rfl, fun ho => ?_, fun ho => H2 (by unfold filF; rw [if_pos (by omega), if_neg ho])⟩
  obtain ⟨c1, c2⟩ := hSh i hi
  obtain ⟨s1, s2⟩ := hSL i (by omega) (by omega)
  cases hSp : Sh (i : Int) with
  | none =>
    have f3 : filF s t Sh i = 3 := by
      unfold filF filN
      rw [if_pos (by omega), if_pos ho, hSp, if_pos rfl]
    rw [c1 hSp]
    refine ⟨rfl, by omega, by omega, rfl, by omega, fun w => by omega, fun _ => lacks_c h1.1.1 e5 hB (by omega) (fun _ => ⟨fun _ => ⟨o2, fun w => ?_, fun _ => ⟨d1, refuse_c h1.1.1 (by decide) hr (H3 f3)⟩⟩, fun w => absurd rfl w⟩) (fun w => by omega)⟩
    rw [c1 hSp] at w
    omega
  | some u =>
    have hC := c2 u hSp
    obtain ⟨b1, b2, b3⟩ := s2 u hSp
    have lp := List.length_pos_of_mem (hd_mem _ b2.1)
    have fn : filN s Sh i = (fl u.1).length := by unfold filN; rw [hSp]
    have fl4 : (60 < (fl t).length - 1 + (fl u.1).length ∨ 3000 < s.1 8 + (fl u.1).length) → filF s t Sh i = 4 := fun q => by
      unfold filF
      rw [if_pos (by omega), if_pos ho, fn, if_neg (by omega), if_pos q]
    have hu60 := b2.2.2.2
    rw [hC.1]
    refine ⟨rfl, by omega, by omega, rfl, by omega, fun w => H4 (fl4 (by omega)), fun q => lacks_c h1.1.1 e5 hB (by omega) (fun q2 => ⟨fun _ => ?_, fun w => absurd rfl w⟩) (fun q2 => ⟨fun w => absurd w (by decide), fun _ => H4 (fl4 (by omega))⟩)⟩
    have f0 : filF s t Sh i = 0 := by
      unfold filF
      rw [if_pos (by omega), if_pos ho, fn, if_neg (by omega), if_neg (by omega)]
    have hbear : ∀ x, x ∈ fl u.1 → bearOk (s.1 2) (u.2.2 9 x) (u.2.2 10 x) (u.2.2 11 x) := fun x hx => by
      obtain ⟨k, hk1, hk2⟩ := List.mem_iff_getElem.mp hx
      exact (b3 k x (by rw [List.getElem?_eq_getElem hk1, hk2])).2
    refine ⟨o2, fun _ => ?_, fun w => by rw [hC.1] at w; omega⟩
    rw [d3]
    refine ⟨d1, d2, rem_ok h1 hT hKS (fun c1 hO1 hK1 hx1 hr1 => ?_)⟩
    obtain ⟨a1, a2, a3, -⟩ := hO1.1.1.dk
    have hCc1 : CPc c1 (199 + 6 * i) u := ((SHc.x hSh h1.1.1 hx1 (by decide) (fun a ha => Or.inl (snR_lt a ha))) i hi).2 u hSp
    rw [a3]
    refine ⟨a1, (hO1.1.1.2.1.2 i hi).2.1, bornInto_ok hi hO1 hCc1 b2 (fun x hx => ⟨(hbear x hx).1, (hbear x hx).2.2.2.2⟩) (by omega) (fun A' c2 st hBI => ?_)⟩
    obtain ⟨hO2, hFB, hE, hx2, hr2, hW2⟩ := hBI
    obtain ⟨⟨v8, v16, v2⟩, vo, vn⟩ := fil_old hFB hT
    have hAf := fil_aft hFB hT b2 hbear ⟨by omega, by omega⟩
    have hcb := hS.m _ hT.2.2
    obtain ⟨a1, a2, a3, -⟩ := hO2.1.1.dk
    rw [a3, ← hE (s.1 16) hcb.2]
    have f8 := hFB.1
    refine ⟨a1, a2, repl_c hO2 (Or.inl hT.2.2) ⟨hB.1, by omega⟩ (fun q => ?_) (fun c3 hO3 hx3 hr3 => ?_)⟩
    · have o := (hFB.2.2.1 _ hcb.2).2.1
      rw [o.1] at q ⊢
      rw [o.2]
      have hu := pl_in hS hT.2.2 q
      have hum : s.2 12 (s.1 16) ∈ fl t := hS.up9 hT.2.2 (fun w => q (by rw [w]; exact hS.2.2.2.2.2.2.1))
      rw [(hFB.2.2.1 _ (hS.m _ hum).2).1.1]
      exact hu
    obtain ⟨a1, a2, a3, -⟩ := hO3.1.1.dk
    have hcl := (h1.1.2.1.2 _ hcb.1 hcb.2).1.1
    have hcb2 : A (s.1 16) < nxt c := by have := (h1.1.2.1.2 _ hcb.1 hcb.2).2.1; omega
    have hEc := hE (s.1 16) hcb.2
    have k3 : ∀ a, a < nxt c → kl c3 a = kl c a := fun a ha => by
      rw [hx3.k (by have := hx1.n; have := hx2.n; omega), hx2.k (by have := hx1.n; omega), hx1.k ha]
    have n3 : nxt c ≤ nxt c3 := by have := hx1.n; have := hx2.n; have := hx3.n; omega
    have kc3 : kl c3 (A' (s.1 16)) = 5 := by rw [hEc, k3 _ hcb2]; exact hcl
    have kcur : ky (A' (s.1 16)) (kl c3 (A' (s.1 16))) = 5 := by
      have := (h1.1.2.1.2 _ hcb.1 hcb.2).2.2
      rw [ky5 (by rw [hEc]; exact this), kc3]
    generalize hc4 : uR c3 (A' (s.1 16)) 12 (A' (s.1 8)) = c4
    have hx4 : CX [(5, 12)] [] c3 c4 := by
      rw [← hc4]
      refine CX.rf.uR (fun hlt => ?_)
      rw [kcur]; decide
    have hr4 : RMk 0 0 c3 c4 := by rw [← hc4]; exact RMk.rf
    have hO4 := op_x hO3 hx4 (by decide) (by decide) (by decide) (by decide) ⟨by decide, by decide, by decide, by decide⟩ ⟨by decide, by decide, by decide, by decide⟩
    have hO5 := op_cur (y := s.1 8) hO4
    have hx5 : CX [(8, 2)] [] c4 (uR c4 70 2 (A' (s.1 8))) := CX.rf.uR (fun _ => by rw [hO4.1.1.dk.2.1]; decide)
    have hr5 : RMk 0 0 c4 (uR c4 70 2 (A' (s.1 8))) := RMk.rf
    have hcur5 : fR (uR c4 70 2 (A' (s.1 8))) 70 2 = A' (s.1 8) := by rw [fR_uR, if_pos ⟨rfl, rfl⟩]
    generalize hc5 : uR c4 70 2 (A' (s.1 8)) = c5 at hO5 hx5 hr5 hcur5
    rw [a3, hc5]
    have h9o : ∀ x, x < s.1 8 → (filV s st).2 9 x = s.2 9 x := fun x hx => (vo x hx).1
    have mem : ∀ x, x ∈ fl (filT s t u) → x ∈ fl t ∨ (s.1 8 ≤ x ∧ x < s.1 8 + (fl u.1).length) := fun x hx => by
      rcases mem_rpT hS hT.2.2 hx with q | q
      · exact Or.inl q
      · have := rlb_at b2.1 q
        right
        omega
    have ndi : ∀ (a b : Nat) (z : Int), (fl u.1)[a]? = some z → (fl u.1)[b]? = some z → a = b := fun a b z ha hb => by
      obtain ⟨a1, a2⟩ := List.getElem?_eq_some_iff.mp ha
      obtain ⟨b1, b2'⟩ := List.getElem?_eq_some_iff.mp hb
      exact (List.getElem_inj b2.2.2.1).mp (a2.trans b2'.symm)
    obtain ⟨r0, hr0⟩ := fl_hd _ b2.1
    have hd0 : (fl u.1)[0]? = some (hd u.1) := by rw [hr0]; rfl
    refine ⟨kc3, a1, a2, settled_ok hO5 hcur5 hAf (KIs_q (KIs_q hK hFB.2.1 (by decide) (by decide)) (eqx_us (replU_e (s := st) (o := s.1 16) (c := s.1 8) |>.up (ys' := [15, 16]) (fun y hy => by simp at hy ⊢; omega) (fun y hy => hy)) (y := 16) (z := s.1 8) (by decide)) (by decide) (by decide)) (fun x hx => ?_) (fun x i hx i0 i1 => ?_) (by omega) (fun e g1 g2 g3 => ?_)⟩
    · rcases mem x hx with q | q
      · exact Or.inl (Or.inl q)
      · by_cases w : x = s.1 8
        · exact Or.inr w
        · exact Or.inl (Or.inr ⟨by omega, q.2⟩)
    · have i1 : i < pO ((filV s st).2 9 x) := i1
      rcases mem x hx with q | q
      · rw [h9o x (hS.m _ q).2] at i1
        exact Or.inl (Or.inl ⟨q, i0, i1⟩)
      · left; right
        have hk : (x - s.1 8).toNat < (fl u.1).length := by omega
        have hx0 := List.getElem?_eq_getElem hk
        generalize (fl u.1)[(x - s.1 8).toNat] = x0 at hx0
        have g := (vn _ _ hx0).1
        rw [show s.1 8 + (((x - s.1 8).toNat : Nat) : Int) = x by omega] at g
        rw [g] at i1
        have hx0m := List.mem_of_getElem? hx0
        have fll : x0 = hd u.1 → i < na u.1 := fun w => by
          have := b2.2.1
          unfold full at this
          rw [this, ← w]; exact i1
        obtain ⟨m1, m2, m3⟩ := (AT_mem u.1 b2.1 x0 hx0m).2.2.1 i i0 i1 fll
        have m4 := AT_kid u.1 b2.1 b2.2.2.1 x0 i hx0m i0 i1 fll
        obtain ⟨j, hj1, hj2⟩ := List.mem_iff_getElem.mp m1
        have hj : (fl u.1)[j]? = some (u.2.2 14 (3 * x0 + i)) := by rw [List.getElem?_eq_getElem hj1, hj2]
        have hj0 : 0 < j := by
          rcases Nat.eq_zero_or_pos j with w | w
          · rw [w, hd0] at hj
            injection hj with hj
            exact absurd hj.symm m4
          · exact w
        exact ⟨j, _, (x - s.1 8).toNat, hj0, hj1, hj, by rw [m2]; exact hx0, by omega, m3.symm⟩
    · have hBv : 0 ≤ s.1 8 ∧ s.1 8 < (filV s st).1 8 := by omega
      obtain ⟨n1, n4⟩ := ans_b g1 hBv
      refine ⟨n1, ?_⟩
      rw [n4]
      have nc1 : nxt c1 = nxt c := by have := hx1.n; have := hr1.1; omega
      have n2 : nxt c1 ≤ nxt c2 := hx2.n
      have n23 : nxt c2 ≤ nxt c3 := hx3.n
      have n34 : nxt c3 ≤ nxt c4 := hx4.n
      have n45 : nxt c4 ≤ nxt c5 := hx5.n
      have ca2 : CX unY acR c2 e := (hx3.up (ys' := unY) (rs' := acR) (by decide) (by decide)).tr ((hx4.up (by decide) (fun _ w => by cases w)).tr ((hx5.up (by decide) (fun _ w => by cases w)).tr (g2.up (by decide) (by decide))))
      have ca1 : CX unY acR c1 c2 := hx2.up (by decide) (by decide)
      have ca0 : CX unY acR c c1 := hx1.up (by decide) snR_ac
      refine H0 u f0 hSp e ⟨A', st, g1, hFB, hE, ca0.tr (ca1.tr ca2), ((((((hr1.tr hr2).tr hr3).tr hr4).tr hr5).tr g3)).up (by omega) (by omega), ?_, ?_, ?_, ?_, fun a ha hne hka => ?_⟩
      · exact hK1.x hO1.1.1 hE hB.1 (kp_push hKP hT) ((hx2.up (ys' := (5, 12) :: (8, 2) :: (biY ++ sys)) (rs' := 1103 :: srs) (by decide) (by decide)).tr ((hx3.up (by decide) (by decide)).tr ((hx4.up (by decide) (fun _ w => by cases w)).tr ((hx5.up (by decide) (fun _ w => by cases w)).tr (g2.up (by decide) (by decide)))))) (by decide) (by decide)
      · rw [nc1] at hW2
        have w3 := hW2.x h353 hx3 hr3 (by decide)
        have w4 : NWc (nxt c) c4 := fun a a1' a2' a3' => by
          rw [← hc4] at a2' a3' ⊢
          rw [fR_uR, if_neg (fun w => by rw [hEc] at w; omega), fI_uR]
          exact w3 a a1' a2' a3'
        exact (w4.x h353 hx5 hr5 (by decide)).x h353 g2 g3 (by decide)
      · have k1 := hO1.1.1.dk.1
        have k2 := hO2.1.1.dk.1
        have k4 := hO4.1.1.dk.1
        have k5 := hO5.1.1.dk.1
        rw [g2.i (a := 64) (by omega) (by rw [k5]; decide), hx5.i (a := 64) (by omega) (by rw [k4]; decide), hx4.i (a := 64) (by omega) (by rw [a1]; decide), hx3.i (a := 64) (by omega) (by rw [k2]; decide), hx2.i (a := 64) (by omega) (by rw [k1]; decide), hx1.i (a := 64) (by omega) (by rw [d1]; decide)]
      · rw [g2.r (by omega) (by simp [sys]), hx5.r (by omega) (by simp), ← hc4, hEc, fR_uR, if_pos ⟨rfl, rfl⟩]
      · rw [g2.r (by omega) (by simp [sys]), hx5.r (by omega) (by simp), ← hc4, hEc, fR_uR, if_neg (fun w => hne w.2), hx3.r (by omega) (by simp [lys]), hx2.r (by omega) (by simp [biY, lys]), hx1.r (by omega) (by simp [kys])]
end
end
