/-! Going on by the desk: what is seen (C244). -/
def OCD (iv : List (Int × Int)) (L : Nat) (h0 : MH) (A : Int → Nat) (c0 : SC) (σ : SM) (t : Term) (p : Nat) (most : Int) (n : Nat) : Prop := ∀ (V : Term) (st : Int) (c : SC) (a : Nat), isV V = true → VO σ t V → DV A c (LIV c p) V a [] → DWS c0 p most st 0 0 c → ck iv L h0 (3 * n + 10) 241 [vr 176, vr a, vi (60 - (n : Int))] c (qa (DWP A p 0 (-1) 1 c st ((EV σ most n).2 V st)))
/-- behind going on with what is seen -/
def DWE (A : Int → Nat) (p : Nat) (kv k0 k1 : Int) (c : SC) (st : Int) (R : RS) (a : Nat) (e : SC) : Prop := DWP A p kv k0 k1 c st (R.1, R.2.1, R.2.2.1, .null) a e ∧ (R.2.1 = 0 → ∃ l, CHN e (YNG e p) a l ∧ DV A e (YNG e p) R.2.2.2 2 l)
theorem chf_lt : ∀ (l : List (Int × Nat)) (x : Int), (∀ q, q ∈ l → q.1 < x) → chf l x = 2 := by
  intro l
  induction l with
  | nil => intro x _; rfl
  | cons q r ih =>
    intro x h
    have h1 := h q (List.mem_cons_self ..)
    rw [chf_c, if_neg (by omega)]
    exact ih x (fun z hz => h z (List.mem_cons_of_mem _ hz))
theorem DV_ext {A : Int → Nat} {c : SC} {P : Nat → Prop} {l : List (Int × Nat)} {x : Int} {a : Nat} : ∀ (n : Nat) (r : Term), isE n r → (n : Int) ≤ x → DV A c P r 2 l → DV A c P r 2 ((x, a) :: l) := by
  intro n
  induction n with
  | zero => intro r hr _ _; cases r <;> first | exact hr.elim | exact trivial
  | succ n ih =>
    intro r hr hx h
    cases r with
    | mul r y =>
      have hr : isE n r := hr
      have hl := isE_len n r hr
      obtain ⟨h1, h2, h3⟩ := h
      have e : chf ((x, a) :: l) (mlen r) = chf l (mlen r) := by rw [chf_c, if_neg (show ¬ x = (mlen r : Int) by omega)]
      exact ⟨ih r hr (by omega) h1, by rw [e]; exact h2, by rw [e]; exact h3⟩
    | _ => exact hr.elim
section
variable {iv : List (Int × Int)} {L : Nat} {h0 : MH} {A A' : Int → Nat} {P : Nat → Prop} {c c0 e f : SC} {σ s s' w : SM} {t : Term} {d p a g x y n : Nat} {b most st kv ks kv' ks' k0 k1 k q : Int} {ys : List (Nat × Nat)} {rs : List Nat} {R : RS} {X Y E : Term} {l : List (Int × Nat)}
theorem EV_okO (hD : DWX A c0 σ t p) (hFN : FN σ t) (n : Nat) : ∀ v st, isV v = true → VO σ t v → st ≤ most → RO σ t most st ((EV σ most n).2 v st) := (evw_ok hD.1.2.1 hD.1.2.2.1 hD.1.2.2.2 hFN most n).2
theorem sights_c {z : Int} {F : Nat → SC → Prop} (hD : DWX A c0 σ t p) (hFN : FN σ t) (hO : OCD iv L h0 A c0 σ t p most n) (hS : DWS c0 p most st kv ks c) (hk : 0 ≤ kv ∧ 0 ≤ ks) (hz : z = 60 - n) (hE : isE 26 E) (hV : VO σ t E) (hg : CHN c (LIV c p) g l ∧ DV A c (LIV c p) E 2 l) (hF : ∀ a e, DWE A p 0 0 1 c st (envE (EV σ most n).2 E st) a e → F a e) : ck iv L h0 (3 * n + 11) 244 [vr 176, vr g, vi z] c (qa F) := by
  subst hz
  have hst := hS.2.2.2.1
  have key : ∀ (m x : Nat), x + m = 26 → ∀ (r : Nat) (ci : SC) (l' : List (Int × Nat)), (envE (EV σ most n).2 (tkE m E) st).2.1 = 0 → DWP A p 0 0 1 c st ((envE (EV σ most n).2 (tkE m E) st).1, 0, -9, .null) r ci → CHN ci (YNG ci p) r l' → DV A ci (YNG ci p) (envE (EV σ most n).2 (tkE m E) st).2.2.2 2 l' → (∀ q, q ∈ l' → q.1 < (x : Int)) → wk iv L h0 (3 * n + 10 + 1) 244 5 [lr 176, lr g, li (60 - (n : Int)), lr r, li (x : Int)] [] ci (qa F) := by
    intro m
    induction m with
    | zero =>
      intro x hx r ci l' h1 h2 h3 h4 h5
      refine D244_5 ⟨fun _ => hF r ci ⟨?_, fun _ => ⟨l', h3, h4⟩⟩, fun w => by omega⟩
      obtain ⟨y1, y2, y3⟩ := env_ok (EV_okO hD hFN n) 26 E st hE hV hst.2.1
      have e0 : tkE 0 E = E := rfl
      rw [e0] at h1 h2
      have e9 := (y3 h1).1
      rw [h1, e9]
      exact h2
    | succ m ih =>
      intro x hx r ci l' h1 h2 h3 h4 h5
      have hEt : isE x (tkE (m + 1) E) := tkE_is (m + 1) x E (by rw [hx]; exact hE)
      have hVt : VO σ t (tkE (m + 1) E) := VN_tk (m + 1) E hV
      obtain ⟨y1, y2, y3⟩ := env_ok (EV_okO hD hFN n) x (tkE (m + 1) E) st hEt hVt hst.2.1
      obtain ⟨y4, y5, y6, y7⟩ := y3 h1
      have etk := tkE_s m x E (by rw [hx]; exact hE)
      have hSi := (hS.nx (hD.fx hS.1) h2 y1 ⟨rfl, rfl⟩).up (kv' := kv) (ks' := ks) (by omega) (by omega)
      have eE : envE (EV σ most n).2 (tkE m E) st = bnR (optE (fun x => (EV σ most n).2 x (envE (EV σ most n).2 (tkE (m + 1) E) st).1) (envE (EV σ most n).2 (tkE (m + 1) E) st).1 (lkE E x)) (fun st' y => rok st' (.mul (envE (EV σ most n).2 (tkE (m + 1) E) st).2.2.2 y)) := by
        rw [etk]
        show bnR (envE (EV σ most n).2 (tkE (m + 1) E) st) _ = _
        rw [bnR_0 h1]
      generalize envE (EV σ most n).2 (tkE (m + 1) E) st = R0 at *
      have hml := isE_len x _ y5
      have lk := DV_lk 26 E hE hg.2 x (Nat.zero_le _) (by omega)
      obtain ⟨w1, w2, w3⟩ := hD.wk hSi.1
      refine D244_5 ⟨fun w => by omega, fun _ => ⟨w1, seen_find_c (fun a h => by have := h.1.1; omega) (CHN.up h2.2.1.1.1 l g hg.1) ⟨fun q => ⟨by omega, ?_⟩, fun q => ⟨w1, ?_⟩⟩⟩⟩
      · -- nothing is seen
        have hn := lk.1.mp q
        rw [hn, optE_n, bnR_rok] at eE
        have := ih (x + 1) (by omega) r ci l' (by rw [eE]; rfl) (by rw [eE]; exact h2) h3 (by
          rw [eE]
          have ec : chf l' (mlen R0.2.2.2) = 2 := chf_lt l' _ (fun q hq => by rw [hml]; exact h5 q hq)
          exact ⟨h4, ⟨fun _ => rfl, fun _ => ec⟩, fun w => absurd rfl w⟩) (fun q hq => by have := h5 q hq; omega)
        exact this
      · have hnn : lkE E x ≠ .null := fun w => q (lk.1.mpr w)
        obtain ⟨v1, v2⟩ := VN_lk E x hV hnn
        have hdv := DV_up h2.2.1.1.1 _ _ _ [] (Nat.lt_succ_self _) (lk.2 hnn)
        obtain ⟨r1, r2, r3⟩ := EV_okO (most := most) hD hFN n (lkE E x) R0.1 v1 v2 y1.2
        rw [optE_v hnn] at eE
        refine ck_mono (hO (lkE E x) R0.1 ci _ v1 v2 hdv (hSi.up hk.1 hk.2)) (Nat.le_refl _) (fun a e h => ?_)
        have hne := h.ne (fun q => (r3 q).2.1)
        generalize (EV σ most n).2 (lkE E x) R0.1 = R1 at *
        by_cases g0 : R1.2.1 = 0
        · obtain ⟨x1, x2, x3⟩ := r3 g0
          rw [bnR_0 g0] at eE
          have S2 := hSi.nx (hD.fx hSi.1) h r1 ⟨g0, x1⟩
          obtain ⟨u1, u2, u3⟩ := hD.wk S2.1
          refine ⟨fun _ => ⟨u1, ?_⟩, fun w => absurd w (hne.mp g0)⟩
          rw [S2.2.2.1.1]
          refine ⟨u2, ?_⟩
          have e9 : ∃ D, 3 * n + 10 = D + 1 := ⟨3 * n + 9, by omega⟩
          obtain ⟨D, hDD⟩ := e9
          rw [hDD]
          refine bind_c (hD.fx S2.1) hD.2.1 (S2.sg (by omega)).1 (S2.sg (by omega)).2 (fun e2 a2 hw => ⟨by omega, ?_⟩)
          have vx := h.2.2.2.2.1 g0
          have h4' := DV_up h.2.1.1.2 _ _ 2 l' (Nat.lt_succ_self _) h4
          obtain ⟨b1, b2, b3⟩ := dw_bind hD S2 y5 ⟨CHN.up h.2.1.1.2 l' r h3, h4'⟩ ⟨x2, vx⟩ (DV_ne x2 vx) hw
          rw [← hDD]
          have hP : DWP A p 0 0 1 c st (R1.1, 0, -9, .null) a2 e2 := ((h2.tr rfl h).tr g0 b1).up (by decide) (by decide) (by decide)
          refine ih (x + 1) (by omega) a2 e2 (((x : Int), a) :: l') (by rw [eE]; rfl) (by rw [eE]; exact hP) b2 (by
            rw [eE]
            have ec : chf (((x : Int), a) :: l') (mlen R0.2.2.2) = a := by rw [chf_c, if_pos (by rw [hml])]
            have hup : STY (YNG e p) (YNG e2 p) e e2 := b1.2.1.1.2
            have vx2 := DV_up hup _ _ a [] (Nat.lt_succ_self _) vx
            exact ⟨DV_ext x _ y5 (Int.le_refl _) (DV_up hup _ _ 2 l' (Nat.lt_succ_self _) h4'), by rw [ec]; exact ⟨fun w => absurd w (DV_ne x2 vx), fun w => absurd w (isV_nn x2)⟩, fun _ => by rw [ec]; exact vx2⟩) (fun q hq => ?_)
          rcases List.mem_cons.mp hq with rfl | hq
          · show (x : Int) < ((x + 1 : Nat) : Int); omega
          · have := h5 q hq; omega
        · rw [bnR_n g0] at eE
          have ea : a = 2 := h.2.2.2.2.2 g0
          subst ea
          refine ⟨fun w => absurd rfl w, fun _ => hF 2 e ?_⟩
          rw [stopE m E (by rw [eE]; exact g0), eE]
          obtain ⟨t1, t2, t3, t4, t5, t6⟩ := (h2.tr rfl h).up (kv' := 0) (k0' := 0) (k1' := 1) (by decide) (by decide) (by decide)
          exact ⟨⟨t1, t2, t3, t4, fun _ => trivial, t6⟩, fun w => absurd w g0⟩
  have h26 := key 26 0 rfl 2 c []
  have e26 : ∀ (n : Nat) (E : Term), isE n E → tkE n E = .null := by
    intro n
    induction n with
    | zero => intro E h; cases E <;> first | exact h.elim | rfl
    | succ n ih => intro E h; cases E <;> first | exact h.elim | exact ih _ h
  rw [e26 26 E hE] at h26
  rw [show 3 * n + 11 = (3 * n + 10) + 1 by omega]
  refine D244 (h26 rfl ?_ rfl trivial (fun q hq => by cases hq))
  exact ⟨⟨CX.rf, RMP.rf⟩, ⟨⟨STY.rf, STY.rf⟩, hS.2.1⟩, ⟨hS.2.2.1.2.2.1, hS.2.2.1.2.2.2.1, hS.2.2.1.2.2.2.2⟩, ⟨by show fI c p 2 ≤ fI c p 2 + 2 * (st - st) + 0; omega, by show fI c p 3 ≤ fI c p 3 + (st - st) + 0; omega⟩, fun _ => trivial, fun w => absurd rfl w⟩
/-- nothing is seen at all -/
theorem nosights_c {z : Int} {F : Nat → SC → Prop} (hD : DWX A c0 σ t p) (hx : CX wkY wkR c0 c) (hF : F 2 c) : ck iv L h0 (3 * n + 11) 244 [vr 176, vr 2, vi z] c (qa F) := by
  obtain ⟨w1, w2, w3⟩ := hD.wk hx
  have key : ∀ (m : Nat) (i : Int), 0 ≤ i → i + m = 26 → wk iv L h0 (3 * n + 10 + 1) 244 5 [lr 176, lr 2, li z, lr 2, li i] [] c (qa F) := by
    intro m
    induction m with
    | zero => intro i i0 hi; exact D244_5 ⟨fun _ => hF, fun w => by omega⟩
    | succ m ih =>
      intro i i0 hi
      exact D244_5 ⟨fun w => by omega, fun _ => ⟨w1, seen_find_c (P := fun _ => False) (l := []) (fun a h => h.elim) rfl ⟨fun _ => ⟨by omega, ih (i + 1) (by omega) (by omega)⟩, fun w => absurd rfl w⟩⟩⟩
  rw [show 3 * n + 11 = (3 * n + 10) + 1 by omega]
  exact D244 (key 26 0 (by decide) (by decide))
end
