/-! rename() by the desk. -/
section
variable {iv : List (Int × Int)} {L : Nat} {h0 : MH} {A A' : Int → Nat} {c e : SC} {s s' : SM} {t : Term} {d : Nat} {P : Int → Prop} {Q : Int → Int → Prop} {K : List Snap}
theorem bnd_two {so nu up pl : Int → Int} {q v : Int} : ∀ (n : Nat) (b x : Int), bnd so nu up pl n b x ≠ q → bnd so (fun y => if y = q then v else nu y) up pl n b x = bnd so nu up pl n b x ∨ bnd so (fun y => if y = q then v else nu y) up pl n b x = q := by
  intro n
  induction n with
  | zero => intro b x _; exact Or.inl rfl
  | succ n ih =>
    intro b x h
    unfold bnd at h ⊢
    by_cases e : up b = -9
    · rw [if_pos e, if_pos e]; exact Or.inl rfl
    · rw [if_neg e] at h
      rw [if_neg e, if_neg e]
      by_cases eq : up b = q
      · simp only [if_pos eq]
        by_cases c1 : (so (up b) = 8 ∨ so (up b) = 10 ∧ pl b = 1) ∧ nu (up b) = x
        · rw [if_pos c1] at h
          exact absurd eq h
        · rw [if_neg c1] at h
          by_cases c2 : (so (up b) = 8 ∨ so (up b) = 10 ∧ pl b = 1) ∧ v = x
          · rw [if_pos c2]; exact Or.inr eq
          · rw [if_neg c2, if_neg c1]
            exact ih _ x h
      · simp only [if_neg eq]
        by_cases c1 : (so (up b) = 8 ∨ so (up b) = 10 ∧ pl b = 1) ∧ nu (up b) = x
        · rw [if_pos c1, if_pos c1]; exact Or.inl rfl
        · rw [if_neg c1] at h
          rw [if_neg c1, if_neg c1]
          exact ih _ x h
theorem Ainj (hN : ND A c s) (hS : SHT s t) {b b' : Int} (hb : b = -9 ∨ b ∈ fl t) (hb' : b' = -9 ∨ b' ∈ fl t) : A b = A b' ↔ b = b' := by
  constructor
  · intro e
    rcases hb' with q | q
    · subst q
      rw [A9 hN] at e
      rcases hb with w | w
      · exact w
      · exact absurd e (hN.ne (hS.m _ w)).1
    · exact hN.inj (hS.m _ q) e
  · intro e; rw [e]
theorem A64 (hN : ND A c s) (hS : SHT s t) {b : Int} (hb : b = -9 ∨ b ∈ fl t) : A b = 2 ∨ 64 ≤ A b := by
  rcases hb with q | q
  · left; rw [q]; exact A9 hN
  · right; exact (hN.ne (hS.m _ q)).2
/-- the nodes one by one -/
theorem R1.ord (h1 : FIX c ∧ ND A c s ∧ HG A c s t ∧ LST A c t) (hS : SHT s t) {p m : List Int} {x : Int} (e : fl t = p ++ x :: m) : x ∈ fl t ∧ p.length < 60 ∧ (fl t).length = p.length + 1 + m.length ∧ aR c 71 (p.length : Int) = A x ∧ fI c (A x) 7 = p.length ∧ kl c (A x) = 5 ∧ fI c (A x) 1 = s.2 9 x ∧ fI c (A x) 4 = s.2 10 x := by
  have hxm : x ∈ fl t := by rw [e]; simp
  have hl := hS.2.2.2.1
  have hle : (fl t).length = p.length + 1 + m.length := by rw [e]; simp; omega
  obtain ⟨g1, g2⟩ := h1.2.2.2.2 p.length x (by rw [e]; simp)
  obtain ⟨⟨n1, n2, n3, n4, n5, n6, n7, n8⟩, n9, n10⟩ := h1.2.1.2 x (hS.m _ hxm).1 (hS.m _ hxm).2
  exact ⟨hxm, by omega, hle, g1, g2, n1, n5, n8⟩
theorem FIX.or (h : FIX c) : kl c 70 = 8 ∧ fR c 70 0 = 71 ∧ kl c 71 = 103 ∧ le c 71 = 60 := by
  simp only [h.1]
  exact ⟨trivial, trivial, trivial, trivial⟩
theorem bds_in (hS : SHT s t) {nu : Int → Int} {y x : Int} (hy : y ∈ fl t) : bnd (s.2 9) nu (s.2 12) (s.2 13) 70 y x = -9 ∨ bnd (s.2 9) nu (s.2 12) (s.2 13) 70 y x ∈ fl t := (bnd_mem hS.w 70 y x hy).imp id (fun q => q.1)
theorem rnb_eq (hS : SHT s t) {v y : Int} (hy : y ∈ fl t) (e3 : s.2 9 y = 3) : rnb s v y = decide (bdR s v y (if isB s y then v else s.2 10 y) ≠ bds s y (s.2 10 y)) := by
  unfold rnb
  rw [decide_eq_true e3, Bool.true_and]
  have hB : isB s y = decide (bds s y (s.2 10 y) = s.1 16) := by unfold isB; rw [decide_eq_true e3, Bool.true_and]
  by_cases hb : bds s y (s.2 10 y) = s.1 16
  · have h1 : isB s y = true := by rw [hB]; exact decide_eq_true hb
    rw [h1, hb]
    by_cases q : bdR s v y (if true = true then v else s.2 10 y) = s.1 16
    · rw [decide_eq_true q, decide_eq_false (fun w => w q)]; rfl
    · rw [decide_eq_false q, decide_eq_true q]; rfl
  · have h1 : isB s y = false := by rw [hB]; exact decide_eq_false hb
    rw [h1]
    have two : bdR s v y (s.2 10 y) = bds s y (s.2 10 y) ∨ bdR s v y (s.2 10 y) = s.1 16 := bnd_two 70 y (s.2 10 y) hb
    show (decide (bdR s v y (s.2 10 y) = s.1 16) != false) = decide (bdR s v y (s.2 10 y) ≠ bds s y (s.2 10 y))
    by_cases q : bdR s v y (s.2 10 y) = s.1 16
    · have hne : bdR s v y (s.2 10 y) ≠ bds s y (s.2 10 y) := fun w => hb (by rw [← w]; exact q)
      rw [decide_eq_true q, decide_eq_true hne]; rfl
    · have hne : ¬ (bdR s v y (s.2 10 y) ≠ bds s y (s.2 10 y)) := fun w => w (two.resolve_right q)
      rw [decide_eq_false q, decide_eq_false hne]; rfl
theorem catches_ok {v : Int} {F : Int → SC → Prop} (h1 : R1 A c s t) (hT : AFT s t) (hF : F (if (fl t).any (rnb s v) = true then 1 else 0) c) : ck iv L h0 (d + 1) 214 [vr 70, vr (A (s.1 16)), vi v] c (qi F) := by
  have hS := hT.1
  obtain ⟨k1, k2, k3, k4⟩ := h1.1.1.or
  have hJ := js_of h1.1.1 h1.1.2.1 h1.1.2.2.1 hS
  have hDP : ∀ x, x ∈ fl t → DP (s.2 12) 70 x := fun x hx => DP_up 61 70 _ (by decide) (DP_tree hS x hx)
  have hcl : s.1 16 = -9 ∨ s.1 16 ∈ fl t := Or.inr hT.2.2
  have key : ∀ (m p : List Int), fl t = p ++ m → F (if m.any (rnb s v) = true then 1 else 0) c → wk iv L h0 (d + 1) 214 2 [lr 70, lr (A (s.1 16)), li v, li p.length] [] c (qi F) := by
    intro m
    induction m with
    | nil =>
      intro p hp hF
      refine C214_2 ⟨k1, fun _ => hF, fun q => ?_⟩
      have := h1.1.2.2.2.1
      rw [hp] at this
      simp at this
      omega
    | cons x m ih =>
      intro p hp hF
      obtain ⟨o1, o2, o3, o4, o5, o6, o7, o8⟩ := R1.ord h1.1 hS hp
      have hsz := h1.1.2.2.2.1
      have nx : rnb s v x = false → wk iv L h0 (d + 1) 214 2 [lr 70, lr (A (s.1 16)), li v, li ((p.length : Int) + 1)] [] c (qi F) := fun hn => by
        have := ih (p ++ [x]) (by rw [hp]; simp) (by rw [List.any_cons, hn, Bool.false_or] at hF; exact hF)
        rw [List.length_append] at this
        simp only [List.length_cons, List.length_nil] at this
        push_cast at this
        exact this
      have st : rnb s v x = true → F 1 c := fun hn => by
        rw [List.any_cons, hn, Bool.true_or, if_pos rfl] at hF
        exact hF
      refine C214_2 ⟨k1, fun q => by omega, fun _ => ?_⟩
      rw [k2, k3, k4, o4, o6, o7, o8]
      refine ⟨rfl, by omega, rfl, fun q3 => ⟨by omega, nx (by unfold rnb; rw [decide_eq_false q3, Bool.false_and])⟩, fun e3 => ?_⟩
      have hr := rnb_eq hS (v := v) o1 e3
      have hb0 := bds_in (nu := s.2 10) (x := s.2 10 x) hS o1
      refine nb0_ok hJ o1 (hDP x o1) ⟨A64 h1.1.2.1 hS hb0, A64 h1.1.2.1 hS hcl, fun q => ⟨o6, ?_⟩, fun q => ?_⟩
      · have hnb : ¬ bds s x (s.2 10 x) = s.1 16 := fun w => q ((Ainj h1.1.2.1 hS hb0 hcl).mpr w)
        have hB : isB s x = false := by unfold isB; rw [decide_eq_false hnb, Bool.and_false]
        rw [o8]
        refine nb_ok (nu := nuR s v) (q := s.1 16) (z := v) hJ hcl (fun y _ => rfl) o1 (hDP x o1) ?_
        have hb1 := bds_in (nu := nuR s v) (x := s.2 10 x) hS o1
        rw [hB] at hr
        refine ⟨A64 h1.1.2.1 hS hb1, fun w => ⟨by omega, nx ?_⟩, fun w => st ?_⟩
        · rw [hr]
          exact decide_eq_false (fun z => z ((Ainj h1.1.2.1 hS hb1 hb0).mp w))
        · rw [hr]
          exact decide_eq_true (fun z => w ((Ainj h1.1.2.1 hS hb1 hb0).mpr z))
      · have hnb : bds s x (s.2 10 x) = s.1 16 := (Ainj h1.1.2.1 hS hb0 hcl).mp q
        have hB : isB s x = true := by unfold isB; rw [decide_eq_true hnb, decide_eq_true e3]; rfl
        refine nb_ok (nu := nuR s v) (q := s.1 16) (z := v) hJ hcl (fun y _ => rfl) o1 (hDP x o1) ?_
        have hb1 := bds_in (nu := nuR s v) (x := v) hS o1
        rw [hB] at hr
        refine ⟨A64 h1.1.2.1 hS hb1, fun w => ⟨by omega, nx ?_⟩, fun w => st ?_⟩
        · rw [hr]
          exact decide_eq_false (fun z => z ((Ainj h1.1.2.1 hS hb1 hb0).mp w))
        · rw [hr]
          exact decide_eq_true (fun z => w ((Ainj h1.1.2.1 hS hb1 hb0).mpr z))
  refine C214 ?_
  exact key (fl t) [] rfl hF
/-- names renamed so far -/
def rnP (s : SM) (p : List Int) (v : Int) : SM := (s.1, fun f y => if f = 10 ∧ (y ∈ p ∧ isB s y = true) then v else s.2 f y)
theorem rnP_x {p : List Int} {v : Int} : SX [] [10] s (rnP s p v) := ⟨fun _ _ _ => rfl, fun f _ hf i _ => if_neg (fun q => hf (by rw [q.1]; simp))⟩
theorem rnP_o {p : List Int} {v : Int} {f : Nat} (hf : f ≠ 10) : (rnP s p v).2 f = s.2 f := by
  funext y
  exact if_neg (fun q => hf q.1)
theorem renameAll_ok {v : Int} {F : Int → SC → Prop} (h1 : FIX c ∧ LST A c t) (hT : AFT s t) (hO : OP A c s (fun x => x ∈ fl t) (fun b i => b ∈ fl t ∧ 0 ≤ i ∧ i < pO (s.2 9 b))) (hF : ∀ e, OP A e (rnU s t v) (fun x => x ∈ fl t) (fun b i => b ∈ fl t ∧ 0 ≤ i ∧ i < pO (s.2 9 b)) → CX [(5, 4)] [] c e → RMk 0 0 c e → F (cntp (isB s) (fl t)) e) : ck iv L h0 (d + 1) 215 [vr 70, vr (A (s.1 16)), vi v] c (qi F) := by
  have hS := hT.1
  have hcl : s.1 16 = -9 ∨ s.1 16 ∈ fl t := Or.inr hT.2.2
  have hcb := hS.m _ hT.2.2
  have key : ∀ (m p : List Int) (n : Int) (f : SC), fl t = p ++ m → 0 ≤ n → n ≤ p.length → n + cntp (isB s) m = cntp (isB s) (fl t) → OP A f (rnP s p v) (fun x => x ∈ fl t) (fun b i => b ∈ fl t ∧ 0 ≤ i ∧ i < pO (s.2 9 b)) → CX [(5, 4)] [] c f → RMk 0 0 c f → wk iv L h0 (d + 1) 215 5 [lr 70, lr (A (s.1 16)), li v, li n, li p.length] [] f (qi F) := by
    intro m
    induction m with
    | nil =>
      intro p n f hp hn0 hnl hn hOf hx hr
      obtain ⟨k1, k2, k3, k4⟩ := hOf.1.1.or
      have hL := h1.2.x hO.1.2.1 hS.m h1.1 hx (by decide) (by decide) (by decide)
      have hk := (hOf.1.2.1.2 _ hcb.1 hcb.2).1.1
      obtain ⟨o1, o2⟩ := op_v (v := v) hOf hcb
      refine C215_5 ⟨k1, fun _ => ⟨hk, ?_⟩, fun q => ?_⟩
      · rw [show n = cntp (isB s) (fl t) by rw [← hn]; show n = n + 0; omega]
        rw [List.append_nil] at hp
        have he : ua (rnP s p v) 10 (s.1 16) v = rnU s t v := by
          refine Prod.ext rfl (funext fun f => funext fun y => ?_)
          show (if f = 10 ∧ y = s.1 16 then v else if f = 10 ∧ (y ∈ p ∧ isB s y = true) then v else s.2 f y) = if f = 10 ∧ (y = s.1 16 ∨ (y ∈ fl t ∧ isB s y = true)) then v else s.2 f y
          rw [hp]
          by_cases a1 : f = 10 ∧ y = s.1 16
          · rw [if_pos a1, if_pos ⟨a1.1, Or.inl a1.2⟩]
          · rw [if_neg a1]
            by_cases a2 : f = 10 ∧ (y ∈ p ∧ isB s y = true)
            · rw [if_pos a2, if_pos ⟨a2.1, Or.inr a2.2⟩]
            · rw [if_neg a2, if_neg (fun q => q.2.elim (fun w => a1 ⟨q.1, w⟩) (fun w => a2 ⟨q.1, w⟩))]
        rw [he] at o1
        exact hF _ o1 (hx.tr o2) hr
      · have := hL.1
        rw [hp] at this
        simp at this
        omega
    | cons x m ih =>
      intro p n f hp hn0 hnl hn hOf hx hr
      have hSp : SHT (rnP s p v) t := hS.x rnP_x (by decide) (by decide)
      have hLf := h1.2.x hO.1.2.1 hS.m h1.1 hx (by decide) (by decide) (by decide)
      have hHf : HG A f (rnP s p v) t := op_HG hOf hSp (fun x hx => hx) (fun x i hx i0 i1 => ⟨hx, i0, by rw [rnP_o (by decide)] at i1; exact i1⟩)
      obtain ⟨k1, k2, k3, k4⟩ := hOf.1.1.or
      obtain ⟨o1, o2, o3, o4, o5, o6, o7, o8⟩ := R1.ord ⟨hOf.1.1, hOf.1.2.1, hHf, hLf⟩ hSp hp
      have hJ := js_of hOf.1.1 hOf.1.2.1 hHf hSp
      have hxp : x ∉ p := fun q => by
        have := hS.2.2.1
        rw [hp] at this
        exact (List.nodup_append.mp this).2.2 x q x (by simp) rfl
      have e10 : (rnP s p v).2 10 x = s.2 10 x := if_neg (fun q => hxp q.2.1)
      have e9 : (rnP s p v).2 9 x = s.2 9 x := by rw [rnP_o (by decide)]
      rw [e9] at o7
      rw [e10] at o8
      have hsz := hLf.1
      have nx : ∀ (n' : Int) (f' : SC), 0 ≤ n' → n' ≤ p.length + 1 → n' + cntp (isB s) m = cntp (isB s) (fl t) → OP A f' (rnP s (p ++ [x]) v) (fun x => x ∈ fl t) (fun b i => b ∈ fl t ∧ 0 ≤ i ∧ i < pO (s.2 9 b)) → CX [(5, 4)] [] c f' → RMk 0 0 c f' → wk iv L h0 (d + 1) 215 5 [lr 70, lr (A (s.1 16)), li v, li n', li ((p.length : Int) + 1)] [] f' (qi F) := fun n' f' a0 a1 a2 a3 a4 a5 => by
        have := ih (p ++ [x]) n' f' (by rw [hp]; simp) a0 (by simp; exact a1) a2 a3 a4 a5
        rw [List.length_append] at this
        simp only [List.length_cons, List.length_nil] at this
        push_cast at this
        exact this
      have same : isB s x = false → rnP s (p ++ [x]) v = rnP s p v := fun hb => by
        refine Prod.ext rfl (funext fun f => funext fun y => ?_)
        show (if f = 10 ∧ (y ∈ p ++ [x] ∧ isB s y = true) then v else s.2 f y) = if f = 10 ∧ (y ∈ p ∧ isB s y = true) then v else s.2 f y
        by_cases a2 : f = 10 ∧ (y ∈ p ∧ isB s y = true)
        · rw [if_pos a2, if_pos ⟨a2.1, List.mem_append_left _ a2.2.1, a2.2.2⟩]
        · rw [if_neg a2, if_neg (fun q => ?_)]
          rcases List.mem_append.mp q.2.1 with w | w
          · exact a2 ⟨q.1, w, q.2.2⟩
          · rw [List.mem_singleton.mp w, hb] at q
            exact absurd q.2.2 (by decide)
      have one : isB s x = true → rnP s (p ++ [x]) v = ua (rnP s p v) 10 x v := fun hb => by
        refine Prod.ext rfl (funext fun f => funext fun y => ?_)
        show (if f = 10 ∧ (y ∈ p ++ [x] ∧ isB s y = true) then v else s.2 f y) = if f = 10 ∧ y = x then v else if f = 10 ∧ (y ∈ p ∧ isB s y = true) then v else s.2 f y
        by_cases a1 : f = 10 ∧ y = x
        · rw [if_pos a1, if_pos ⟨a1.1, by rw [a1.2]; simp, by rw [a1.2]; exact hb⟩]
        · rw [if_neg a1]
          by_cases a2 : f = 10 ∧ (y ∈ p ∧ isB s y = true)
          · rw [if_pos a2, if_pos ⟨a2.1, List.mem_append_left _ a2.2.1, a2.2.2⟩]
          · rw [if_neg a2, if_neg (fun q => ?_)]
            rcases List.mem_append.mp q.2.1 with w | w
            · exact a2 ⟨q.1, w, q.2.2⟩
            · exact a1 ⟨q.1, List.mem_singleton.mp w⟩
      have hcx : cntp (isB s) (x :: m) = (if isB s x then 1 else 0) + cntp (isB s) m := rfl
      rw [hcx] at hn
      refine C215_5 ⟨k1, fun q => by omega, fun _ => ?_⟩
      rw [k2, k3, k4, o4, o6, o7, o8]
      refine ⟨rfl, by omega, rfl, fun q3 => ?_, fun e3 => ?_⟩
      · have hb : isB s x = false := by unfold isB; rw [decide_eq_false q3, Bool.false_and]
        rw [hb] at hn
        refine ⟨by omega, nx n f hn0 (by omega) (by simpa using hn) (by rw [same hb]; exact hOf) hx hr⟩
      · have hbd : bnd ((rnP s p v).2 9) ((rnP s p v).2 10) ((rnP s p v).2 12) ((rnP s p v).2 13) 70 x (s.2 10 x) = bds s x (s.2 10 x) := by
          refine bnd_cg hS.w hSp.w (fun y _ => by rw [rnP_o (by decide)]) (fun y hy q => ?_) 70 x (s.2 10 x) o1
          refine if_neg (fun w => ?_)
          have := w.2.2
          unfold isB at this
          rw [Bool.and_eq_true] at this
          have := of_decide_eq_true this.1
          omega
        have hb0 := bds_in (nu := s.2 10) (x := s.2 10 x) hS o1
        refine nb0_ok hJ o1 (DP_up 61 70 _ (by decide) (DP_tree hSp x o1)) ?_
        rw [hbd]
        refine ⟨A64 hO.1.2.1 hS hb0, A64 hO.1.2.1 hS hcl, fun q => ?_, fun q => ?_⟩
        · have hb : isB s x = false := by unfold isB; rw [decide_eq_false (fun w => q ((Ainj hO.1.2.1 hS hb0 hcl).mpr w)), Bool.and_false]
          rw [hb] at hn
          exact ⟨by omega, nx n f hn0 (by omega) (by simpa using hn) (by rw [same hb]; exact hOf) hx hr⟩
        · have hb : isB s x = true := by unfold isB; rw [decide_eq_true ((Ainj hO.1.2.1 hS hb0 hcl).mp q), decide_eq_true e3]; rfl
          rw [hb] at hn
          obtain ⟨w1, w2⟩ := op_v (y := x) (v := v) hOf (hS.m _ o1)
          refine ⟨by omega, o6, by omega, nx (n + 1) _ (by omega) (by omega) (by simp at hn; omega) (by rw [one hb]; exact w1) (hx.tr w2) hr⟩
  refine C215 ?_
  refine key (fl t) [] 0 c rfl (Int.le_refl _) (Int.le_refl _) (by omega) ?_ CX.rf RMk.rf
  have : rnP s [] v = s := Prod.ext rfl (funext fun f => funext fun y => if_neg (fun q => by simp at q))
  rw [this]
  exact hO
end
