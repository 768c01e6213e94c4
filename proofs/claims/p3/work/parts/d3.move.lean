/-! move() by the desk. -/
section
variable {iv : List (Int × Int)} {L : Nat} {h0 : MH} {A A' : Int → Nat} {c e : SC} {s s' : SM} {t : Term} {d : Nat} {P : Int → Prop} {Q : Int → Int → Prop} {K : List Snap}
theorem find_c {b : Int} {F : Nat → SC → Prop} (h1 : R1 A c s t) (hS : SHT s t) (H1 : b ∈ fl t → F (A b) c) (H2 : b ∉ fl t → F 2 c) : ck iv L h0 d 207 [vr 70, vi b] c (qa F) := by
  obtain ⟨k1, k2, k3, k4⟩ := h1.1.1.or
  have key : ∀ (m p : List Int), fl t = p ++ m → b ∉ p → wk iv L h0 d 207 2 [lr 70, li b, li p.length] [] c (qa F) := by
    intro m
    induction m with
    | nil =>
      intro p hp hb
      rw [List.append_nil] at hp
      refine C207_2 ⟨k1, fun _ => H2 (by rw [hp]; exact hb), fun q => ?_⟩
      have := h1.1.2.2.2.1
      rw [hp] at this
      omega
    | cons x m ih =>
      intro p hp hb
      obtain ⟨o1, o2, o3, o4, o5, o6, o7, o8⟩ := R1.ord h1.1 hS hp
      have o0 : fI c (A x) 0 = x := (h1.1.2.1.2 x (hS.m _ o1).1 (hS.m _ o1).2).1.2.2.2.1
      have hsz := h1.1.2.2.2.1
      refine C207_2 ⟨k1, fun q => by omega, fun _ => ?_⟩
      rw [k2, k3, k4, o4, o6, o0]
      refine ⟨rfl, by omega, rfl, fun q => ⟨by omega, ?_⟩, fun q => ?_⟩
      · have := ih (p ++ [x]) (by rw [hp]; simp) (fun w => by
          rcases List.mem_append.mp w with w | w
          · exact hb w
          · exact q (List.mem_singleton.mp w).symm)
        rw [List.length_append] at this
        simp only [List.length_cons, List.length_nil] at this
        push_cast at this
        exact this
      · rw [← q] at H1
        exact H1 o1
  exact C207 (key (fl t) [] rfl (by simp))
theorem mcatch_ok {g : Int} {F : Int → SC → Prop} (h1 : R1 A c s t) (hT : AFT s t) (hg : g ∈ fl t) (hF : F (if (fl (sq (s.1 16) t)).any (mvb s g) = true then 1 else 0) c) : ck iv L h0 (d + 3) 216 [vr 70, vr (A (s.1 16)), vr (A g)] c (qi F) := by
  have hS := hT.1
  obtain ⟨k1, k2, k3, k4⟩ := h1.1.1.or
  have hJ := js_of h1.1.1 h1.1.2.1 h1.1.2.2.1 hS
  have hDP : ∀ x, x ∈ fl t → DP (s.2 12) 70 x := fun x hx => DP_up 61 70 _ (by decide) (DP_tree hS x hx)
  have hcl : s.1 16 = -9 ∨ s.1 16 ∈ fl t := Or.inr hT.2.2
  obtain ⟨a, z, r, e1, e2, e3⟩ := seq_at hS hT.2.2
  have rx : fI c (A (s.1 16)) 7 = a.length := rank_at h1.1.2.2.2 (m := r ++ z) (by rw [e1, e2]; rfl)
  have hkc := (h1.1.2.1.2 _ (hS.m _ hT.2.2).1 (hS.m _ hT.2.2).2).1.1
  have hl := hS.2.2.2.1
  have hsz := h1.1.2.2.2.1
  have hlen : (fl t).length = a.length + ((fl (sq (s.1 16) t)).length + z.length) := by rw [e1]; simp
  have key : ∀ (m p : List Int), fl (sq (s.1 16) t) = p ++ m → F (if m.any (mvb s g) = true then 1 else 0) c → wk iv L h0 (d + 3) 216 17 [lr 70, lr (A (s.1 16)), lr (A g), li ((a.length : Int) + (fl (sq (s.1 16) t)).length), li ((a.length : Int) + p.length)] [] c (qi F) := by
    intro m
    induction m with
    | nil =>
      intro p hp hF
      refine C216_17 ⟨fun _ => hF, fun q => ?_⟩
      rw [hp] at q
      simp at q
    | cons x m ih =>
      intro p hp hF
      obtain ⟨o1, o2, o3, o4, o5, o6, o7, o8⟩ := R1.ord (x := x) (p := a ++ p) (m := m ++ z) h1.1 hS (by rw [e1, hp]; simp)
      rw [List.length_append] at o2 o4
      push_cast at o4
      have hpl : (fl (sq (s.1 16) t)).length = p.length + (m.length + 1) := by rw [hp]; simp
      have nx : mvb s g x = false → wk iv L h0 (d + 3) 216 17 [lr 70, lr (A (s.1 16)), lr (A g), li ((a.length : Int) + (fl (sq (s.1 16) t)).length), li ((a.length : Int) + p.length + 1)] [] c (qi F) := fun hn => by
        have := ih (p ++ [x]) (by rw [hp]; simp) (by rw [List.any_cons, hn, Bool.false_or] at hF; exact hF)
        rw [List.length_append] at this
        simp only [List.length_cons, List.length_nil] at this
        push_cast at this
        rw [← Int.add_assoc] at this
        exact this
      have st : mvb s g x = true → F 1 c := fun hn => by
        rw [List.any_cons, hn, Bool.true_or, if_pos rfl] at hF
        exact hF
      refine C216_17 ⟨fun q => by omega, fun _ => ⟨k1, fun q => by omega, fun _ => ?_⟩⟩
      rw [k2, k3, k4, o4, o6, o7, o8]
      refine ⟨rfl, by omega, rfl, fun q3 => ⟨by omega, nx (by unfold mvb; rw [decide_eq_false q3, Bool.false_and])⟩, fun e3 => ?_⟩
      have hb0 := bds_in (nu := s.2 10) (x := s.2 10 x) hS o1
      have hb1 := bds_in (nu := s.2 10) (x := s.2 10 x) hS hg
      have nbg : (mvb s g x = decide (bds s g (s.2 10 x) ≠ bds s x (s.2 10 x))) → (kl c (A x) = 5) ∧ ck iv L h0 (d + 2) 56 [vr (A g), vi (fI c (A x) 4), vr 2, vi (-9)] c (qa fun r10 s9 => (r10 = 2 ∨ 64 ≤ r10) ∧ (A (bds s x (s.2 10 x)) = 2 ∨ 64 ≤ A (bds s x (s.2 10 x))) ∧ ((r10 = A (bds s x (s.2 10 x)) → (-2147483648 ≤ ((a.length : Int) + p.length) + 1 ∧ ((a.length : Int) + p.length) + 1 ≤ 2147483647) ∧ wk iv L h0 (d + 3) 216 17 [lr 70, lr (A (s.1 16)), lr (A g), li ((a.length : Int) + (fl (sq (s.1 16) t)).length), li ((a.length : Int) + p.length + 1)] [] s9 (qi F)) ∧ (r10 ≠ A (bds s x (s.2 10 x)) → F 1 s9))) := fun hr => by
        refine ⟨o6, ?_⟩
        rw [o8]
        refine nb0_ok hJ hg (hDP g hg) ⟨A64 h1.1.2.1 hS hb1, A64 h1.1.2.1 hS hb0, fun w => ⟨by omega, nx ?_⟩, fun w => st ?_⟩
        · rw [hr]
          exact decide_eq_false (fun z => z ((Ainj h1.1.2.1 hS hb1 hb0).mp w))
        · rw [hr]
          exact decide_eq_true (fun z => w ((Ainj h1.1.2.1 hS hb1 hb0).mpr z))
      refine nb0_ok hJ o1 (hDP x o1) ⟨fun q => nbg ?_, fun q => ⟨k1, ?_⟩⟩
      · have h9 : bds s x (s.2 10 x) = -9 := by
          rcases hb0 with w | w
          · exact w
          · exact absurd q (h1.1.2.1.ne (hS.m _ w)).1
        unfold mvb
        rw [decide_eq_true e3, decide_eq_true h9, Bool.true_or, Bool.true_and, Bool.true_and]
      · have hn9 : ¬ bds s x (s.2 10 x) = -9 := fun w => q (by
          show A (bds s x (s.2 10 x)) = 2
          rw [w]; exact A9 h1.1.2.1)
        have hbt : bds s x (s.2 10 x) ∈ fl t := hb0.resolve_left hn9
        have hw := wth_sq hS hT.2.2 hbt
        refine isWithin_c (d := d) h1 hS hT.2.2 hbt (fun w => ⟨fun _ => ⟨by omega, nx ?_⟩, fun v => absurd v (by decide)⟩) (fun w => ⟨fun v => absurd rfl v, fun _ => nbg ?_⟩)
        · have hwt := hw.mpr w
          unfold mvb
          rw [hwt, decide_eq_false hn9]
          simp
        · have hwf : wth7 s (bds s x (s.2 10 x)) (s.1 16) = false := by
            cases hq : wth7 s (bds s x (s.2 10 x)) (s.1 16) with
            | false => rfl
            | true => exact absurd (hw.mp hq) w
          unfold mvb
          rw [hwf, decide_eq_true e3, decide_eq_false hn9]
          simp
  refine C216 ⟨hkc, k1, sizeAt_c (d := d + 1) h1 hS hT.2.2 ⟨by omega, hkc, ?_⟩⟩
  rw [rx]
  have := key (fl (sq (s.1 16) t)) [] rfl hF
  simp only [List.length_nil] at this
  push_cast at this
  rw [Int.add_zero] at this
  exact this
theorem mem_rp0 {x : Int} {u : Term} : ∀ (t : Term) {z : Int}, z ∈ fl (rp x u t) → z ∈ fl t ∨ z ∈ fl u := by
  intro t
  induction t with
  | add t y ih ihy =>
    intro z hz
    have hz : z ∈ fl (rp x u t) ++ fl (if hd y = x then u else rp x u y) := hz
    rcases List.mem_append.mp hz with q | q
    · exact (ih q).imp (fun w => List.mem_append_left _ w) id
    · split at q
      · exact Or.inr q
      · exact (ihy q).imp (fun w => List.mem_append_right _ w) id
  | _ => intro z hz; exact Or.inl hz
theorem mem_rpT0 {x : Int} {u t : Term} {z : Int} (h : z ∈ fl (rpT x u t)) : z ∈ fl t ∨ z ∈ fl u := by
  unfold rpT at h
  split at h
  · exact Or.inr h
  · exact mem_rp0 t h
theorem move_c {g : Int} {F : Int → SC → Prop} (h1 : R1 A c s t) (hT : AFT s t) (hK : KIs s) (hKS : KSc A c K) (hKP : ∀ u, u ∈ K → KP s u) (hD : 310 ≤ d) (H1 : ¬ mvOk s t g → F (mvA s t g) c) (H2 : mvOk s t g → ∀ e, ACT A c s t K e (mvU s g) (mvT s t g) → F (mvA s t g) e) : ck iv L h0 d 18 [vr 64, vi g] c (qi F) := by
  obtain ⟨d, rfl⟩ : ∃ k, d = k + 1 + 3 := ⟨d - 4, by omega⟩
  obtain ⟨⟨d1, d2, d3, d4, d5⟩, e1, e2, e3, e4, e5, e6⟩ := h1.cur hT
  have hS := hT.1
  have hB := hS.2.2.2.2.1
  have hcb := hS.m _ hT.2.2
  refine C18 ?_
  rw [d3]
  refine ⟨d1, d2, find_c h1 hS (fun hg => ?_) (fun hg => ⟨fun q => absurd rfl q, fun _ => ?_⟩)⟩
  rotate_left
  · have := H1 (fun q => hg q.1)
    unfold mvA at this
    rw [if_neg hg] at this
    exact this
  have hgb := hS.m _ hg
  obtain ⟨⟨n1, n2, n3, n4, n5, n6, n7, n8⟩, n9, n10⟩ := h1.1.2.1.2 _ hgb.1 hgb.2
  have hw := wth_sq hS hT.2.2 hg
  have stt : mvSt s g → F (-4) c := fun q => by
    have := H1 (fun w => w.2.1 q)
    unfold mvA at this
    have q' : s.2 9 g ≠ 0 ∨ g = s.1 16 ∨ wth7 s g (s.1 16) = true := q
    rw [if_pos hg, if_pos q'] at this
    exact this
  rw [d3, e1, n1, n5]
  refine ⟨fun _ => ⟨d1, d2, rfl, fun q => stt (Or.inl q), fun q0 => isWithin_c (d := d + 1) h1 hS hT.2.2 hg (fun w => ⟨fun v => absurd v (by decide), fun _ => stt (Or.inr (Or.inr (hw.mpr w)))⟩) (fun w => ⟨fun _ => ⟨d1, by rw [d3]; exact d2, ?_⟩, fun v => absurd rfl v⟩)⟩, fun q => absurd q (h1.1.2.1.ne hgb).1⟩
  have hns : ¬ mvSt s g := fun q => by
    rcases q with q | q | q
    · exact q q0
    · refine w ?_
      rw [q]
      obtain ⟨b1, b2, b3, b4, b5, b6, b7⟩ := sq_ok hS.1 hS.2.1 hS.2.2.1 hT.2.2
      have := hd_mem _ b1
      rw [b3] at this
      exact this
    · exact w (hw.mp q)
  rw [d3]
  refine lacks_c h1.1.1 e5 hB (by omega) (fun hb => ⟨fun _ => ⟨d1, by rw [d3]; exact d2, ?_⟩, fun q => absurd rfl q⟩) (fun hb => ⟨fun q => absurd q (by decide), fun _ => ?_⟩)
  rotate_left
  · have := H1 (fun q => q.2.2.1 (by omega))
    unfold mvA at this
    have hns' : ¬ (s.2 9 g ≠ 0 ∨ g = s.1 16 ∨ wth7 s g (s.1 16) = true) := hns
    rw [if_pos hg, if_neg hns', if_pos (by omega)] at this
    exact this
  rw [d3]
  refine mcatch_ok h1 hT hg ?_
  have hns' : ¬ (s.2 9 g ≠ 0 ∨ g = s.1 16 ∨ wth7 s g (s.1 16) = true) := hns
  by_cases ha : (fl (sq (s.1 16) t)).any (mvb s g) = true
  · rw [if_pos ha]
    refine ⟨fun q => absurd q (by decide), fun _ => ?_⟩
    have := H1 (fun q => by rw [q.2.2.2] at ha; exact absurd ha (by decide))
    unfold mvA at this
    rw [if_pos hg, if_neg hns', if_neg (by omega), if_pos ha] at this
    exact this
  · rw [if_neg ha]
    have ha0 : (fl (sq (s.1 16) t)).any (mvb s g) = false := by
      cases h : (fl (sq (s.1 16) t)).any (mvb s g) with
      | false => rfl
      | true => exact absurd h ha
    have hok : mvOk s t g := ⟨hg, hns, by omega, ha0⟩
    have hA : mvA s t g = s.1 8 := by
      unfold mvA
      rw [if_pos hg, if_neg hns', if_neg (by omega), if_neg ha]
    have H3 := H2 hok
    rw [hA] at H3
    rw [d3]
    refine ⟨fun _ => ⟨d1, d2, rem_ok h1 hT hKS (fun c1 hO1 hK1 hx1 hr1 => ?_)⟩, fun q => absurd rfl q⟩
    have hX1 := hO1.1.1
    obtain ⟨a1, a2, a3, -⟩ := hX1.dk
    have b8 : fI c1 70 4 = s.1 8 := hO1.2.2.1.2.1
    rw [a3]
    refine ⟨a1, a2, born_c hX1 (by omega) (by omega) (fun c2 hb2 => ?_)⟩
    have hb2' : BORN c1 c2 0 (nvl 0 (-9)) (kvl 0 (-9)) := hb2
    obtain ⟨hO2, hnew, hE2⟩ := op_born hO1 hb2' (by omega) (by omega)
    obtain ⟨a1, a2, a3, -⟩ := hO2.1.1.dk
    rw [a3, ← hnew, ← hE2 (s.1 16) hcb.2, ← hE2 g hgb.2]
    have he := bornU_e (s := s) (so := 0) (v := -9) (k := -9)
    have hold := bornU_o (s := s) (so := 0) (v := -9) (k := -9)
    have b8' : (bornU s 0 (-9) (-9)).1 8 = s.1 8 + 1 := rfl
    refine ⟨a1, a2, repl_c hO2 hT.2.2 ⟨hB.1, by rw [b8']; omega⟩ (fun q => ?_) (fun c3 hO3 hx3 hr3 => ?_)⟩
    · rw [he.2 12 (by decide)] at q ⊢
      rw [he.2 13 (by decide)]
      have hu := pl_in hS hT.2.2 q
      have hum : s.2 12 (s.1 16) ∈ fl t := hS.up9 hT.2.2 (fun w => q (by rw [w]; exact hS.2.2.2.2.2.2.1))
      rw [(hold _ (hS.m _ hum).2).1.1]
      exact hu
    obtain ⟨a1, a2, a3, -⟩ := hO3.1.1.dk
    have hre := replU_e (s := bornU s 0 (-9) (-9)) (o := s.1 16) (c := s.1 8)
    have hri := replU_in (s1 := bornU s 0 (-9) (-9)) (b := s.1 8) hS hT.2.2 (by rw [he.2 12 (by decide)]) (by rw [he.2 13 (by decide)])
    have r8 : (replU (bornU s 0 (-9) (-9)) (s.1 16) (s.1 8)).1 8 = s.1 8 + 1 := (hre.1 8 (by decide)).trans b8'
    have r9o : ∀ x, x < s.1 8 → (replU (bornU s 0 (-9) (-9)) (s.1 16) (s.1 8)).2 9 x = s.2 9 x := fun x hx => by rw [hre.2 9 (by decide)]; exact (hold x hx).1.1
    have rg : (replU (bornU s 0 (-9) (-9)) (s.1 16) (s.1 8)).2 12 g = s.2 12 g ∧ (replU (bornU s 0 (-9) (-9)) (s.1 16) (s.1 8)).2 13 g = s.2 13 g := by
      have := hri.2.2.2.1 g (by omega)
      rw [this.1, this.2, he.2 12 (by decide), he.2 13 (by decide)]
      exact ⟨rfl, rfl⟩
    rw [a3]
    refine ⟨a1, a2, repl_c hO3 (o := g) (Or.inl hg) (y := s.1 16) ⟨hcb.1, by rw [r8]; omega⟩ (fun q => ?_) (fun c4 hO4 hx4 hr4 => ⟨hO4.1.1.dk.1, ?_⟩)⟩
    · rw [rg.1] at q ⊢
      rw [rg.2]
      have hu := pl_in hS hg q
      have hum : s.2 12 g ∈ fl t := hS.up9 hg (fun w => q (by rw [w]; exact hS.2.2.2.2.2.2.1))
      rw [r9o _ (hS.m _ hum).2]
      exact hu
    have hre2 := replU_e (s := replU (bornU s 0 (-9) (-9)) (s.1 16) (s.1 8)) (o := g) (c := s.1 16)
    have hAft := mv_aft hT hok
    have h353 := h1.1.1.2.2.1
    have hcur : fR c4 70 2 = A1 A (s.1 8) (nxt c1) (s.1 16) := by
      rw [hx4.r (a := 70) (by have := hO3.1.1.2.2.1; omega) (by rw [a2]; decide), hx3.r (a := 70) (by have := hO2.1.1.2.2.1; omega) (by rw [hO2.1.1.dk.2.1]; decide), hb2.1.r (a := 70) (by have := hX1.2.2.1; omega) (by rw [hX1.dk.2.1]; decide), hx1.r (a := 70) (by omega) (by rw [d2]; decide), hE2 _ hcb.2]
      exact e1
    have mem : ∀ x, x ∈ fl (mvT s t g) → x ∈ fl t ∨ x = s.1 8 := fun x hx => by
      unfold mvT at hx
      rcases mem_rpT0 hx with q | q
      · rcases mem_rpT0 q with w | w
        · exact Or.inl w
        · right
          have := List.mem_singleton.mp w
          omega
      · obtain ⟨b1, b2, b3, b4, b5, b6, b7⟩ := sq_ok hS.1 hS.2.1 hS.2.2.1 hT.2.2
        exact Or.inl (b4 x q)
    have e16 : (mvU s g).1 16 = s.1 16 := by
      show (replU (replU (bornU s 0 (-9) (-9)) (s.1 16) (s.1 8)) g (s.1 16)).1 16 = s.1 16
      rw [hre2.1 16 (by decide), hre.1 16 (by decide)]
      rfl
    refine changed0_ok hO4 (by show _ = A1 A (s.1 8) (nxt c1) ((mvU s g).1 16); rw [e16]; exact hcur) hAft (KIs_q (KIs_q (KIs_q hK he (by decide) (by decide)) hre (by decide) (by decide)) hre2 (by decide) (by decide)) (fun x hx => ?_) (fun x i hx i0 i1 => ?_) (by omega) (fun e g1 g2 g3 g4 => ?_)
    · rcases mem x hx with q | q
      · exact Or.inl (Or.inl q)
      · exact Or.inl (Or.inr q)
    · rw [hre2.2 9 (by decide)] at i1
      rcases mem x hx with q | q
      · rw [r9o x (hS.m _ q).2] at i1
        exact Or.inl (Or.inl ⟨q, i0, i1⟩)
      · exfalso
        rw [q, hre.2 9 (by decide), (bornU_at (s := s) (so := 0) (v := -9) (k := -9)).1] at i1
        have : pO 0 = 0 := by decide
        omega
    · obtain ⟨n1, n4⟩ := ans_b g1 (y := s.1 8) ⟨hB.1, by rw [hre2.1 8 (by decide), r8]; omega⟩
      refine ⟨n1, ?_⟩
      rw [n4]
      have r2 : RMk 2 16 c1 c2 := ⟨by have := hb2.2.1.1; omega, hb2.2.1.2⟩
      refine H3 e ⟨A1 A (s.1 8) (nxt c1), g1, hE2, (cxa_k hx1).tr ((cxa_b hb2.1).tr ((cxa_l hx3).tr ((cxa_l hx4).tr (cxa_t g2)))), ((((hr1.tr r2).tr hr3).tr hr4).tr g3).up (by decide) (by decide), ?_, g4, (((((NWc.rf).x h353 hx1 hr1 (by decide)).b h353 hb2).x h353 hx3 hr3 (by decide)).x h353 hx4 hr4 (by decide)).x h353 g2 g3 (by decide)⟩
      exact hK1.x hX1 hE2 hB.1 (kp_push hKP hT) ((hb2.1.up (ys' := [(8, 4)] ++ (lys ++ tyY)) (rs' := [1103] ++ srs) (by decide) (fun _ q => by cases q)).tr ((hx3.up (by decide) (by decide)).tr ((hx4.up (by decide) (by decide)).tr (g2.up (by decide) (by decide))))) (by decide) (by decide)
end
