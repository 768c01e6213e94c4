/-! The reference goes on with values as evw says. -/
def OCA (iv : List (Int × Int)) (L : Nat) (h0 : MH) (σ : SM) (t : Term) (most lo hi elo ehi : Int) (n : Nat) : Prop := ∀ (B C v st : Int) (V : Term) (s : SM), WCX σ t most B C → isV V = true → VO σ t V → VR s lo hi elo ehi V v → WS σ most B C n st 0 s → cm iv L h0 (3 * n + 8) 132 [vr 307, vi v] s (qi fun r w => WP B C 0 0 s st ((EV σ most n).2 V st) r w ∧ (((EV σ most n).2 V st).2.1 ≠ 0 → r = -9))
/-- all but the last m letters -/
def tkE : Nat → Term → Term
  | 0, E => E
  | m + 1, .mul r _ => tkE m r
  | _, _ => .null
theorem tkE_is : ∀ (m x : Nat) (E : Term), isE (x + m) E → isE x (tkE m E) := by
  intro m
  induction m with
  | zero => intro x E h; exact h
  | succ m ih =>
    intro x E h
    rw [show x + (m + 1) = (x + m) + 1 by omega] at h
    cases E with
    | mul r y => exact ih x r h
    | _ => exact h.elim
theorem tkE_s : ∀ (m x : Nat) (E : Term), isE (x + (m + 1)) E → tkE m E = .mul (tkE (m + 1) E) (lkE E x) := by
  intro m
  induction m with
  | zero =>
    intro x E h
    cases E with
    | mul r y =>
      have hl := isE_len x r h
      show Term.mul r y = .mul r (if (mlen r : Int) = x then y else lkE r x)
      rw [if_pos (by omega)]
    | _ => exact h.elim
  | succ m ih =>
    intro x E h
    rw [show x + (m + 1 + 1) = (x + (m + 1)) + 1 by omega] at h
    cases E with
    | mul r y =>
      have hl := isE_len _ r h
      have := ih x r h
      show tkE m r = .mul (tkE (m + 1) r) (if (mlen r : Int) = x then y else lkE r x)
      rw [if_neg (by omega)]
      exact this
    | _ => exact h.elim
theorem stopE {o : EO} {st : Int} : ∀ (m : Nat) (E : Term), (envE o (tkE m E) st).2.1 ≠ 0 → envE o E st = envE o (tkE m E) st := by
  intro m
  induction m with
  | zero => intro E h; rfl
  | succ m ih =>
    intro E h
    cases E with
    | mul r y =>
      have := ih r h
      show bnR (envE o r st) _ = _
      rw [this]
      exact bnR_n (r := envE o (tkE m r) st) h
    | _ => exact absurd rfl h
theorem VN_tk {s : SM} {t : Term} {g : Int → Int} : ∀ (m : Nat) (E : Term), VG s t g E → VG s t g (tkE m E) := by
  intro m
  induction m with
  | zero => intro E h; exact h
  | succ m ih =>
    intro E h
    cases E with
    | mul r y => exact ih r h.1
    | _ => trivial
section
variable {iv : List (Int × Int)} {L : Nat} {h0 : MH} {σ s : SM} {t : Term} {d n : Nat} {most B C st k lo hi elo ehi : Int}
theorem WCX.at {B' C' : Int} (h : WCX σ t most B C) (hB : B ≤ B' ∧ C ≤ C') : WCX σ t most B' C' := ⟨h.1, h.2.1, h.2.2.1, ⟨h.2.2.2.1.1, by have := h.2.2.2.1; omega, by have := h.2.2.2.1; omega⟩, h.2.2.2.2⟩
theorem WS.at {B' C' : Int} (h : WS σ most B C n st k s) (hB : B' ≤ s.1 52 ∧ C' ≤ s.1 54) : WS σ most B' C' n st k s := ⟨h.1, h.2.1, h.2.2.1, ⟨hB.1, h.2.2.2.1.2⟩, hB.2, h.2.2.2.2.2⟩
/-- cells of the other half stay -/
theorem old_k {w : SM} (hH : OLDH σ lo hi elo ehi) (hX : WCX σ t most B C) (hS : WS σ most B C n st k s) (hf : FRM s w) (hw : w.1 52 ≤ 1300 * σ.1 55 + 1300 ∧ w.1 54 ≤ 640 * σ.1 55 + 640) : KEEP s w lo hi elo ehi := by
  obtain ⟨m1, m2⟩ := hX.bc
  obtain ⟨a1, a2, a3, a4, a5⟩ := hS
  obtain ⟨b1, b2, b3⟩ := hH
  exact hf.keep (by omega) (by omega)
theorem WP.top {kv ke r : Int} {R : RS} {w : SM} (hX : WCX σ t most B C) (hS : WS σ most B C n st k s) (hw : WP B C kv ke s st R r w) (hR : st ≤ R.1 ∧ R.1 ≤ most) (hk : -600 ≤ k ∧ kv ≤ 20 ∧ ke ≤ 20) (hkk : 0 ≤ k) : w.1 52 ≤ 1300 * σ.1 55 + 1300 ∧ w.1 54 ≤ 640 * σ.1 55 + 640 := by
  obtain ⟨m1, m2⟩ := hX.bc
  obtain ⟨a1, a2, a3, a4, a5⟩ := hS
  obtain ⟨b1, b2, b3, b4, b5⟩ := hw
  omega
theorem envOn_ok {e : Int} {E : Term} {F : Int → SM → Prop} (hX : WCX σ t most B C) (hFN : FN σ t) (hH : OLDH σ lo hi elo ehi) (hO : OCA iv L h0 σ t most lo hi elo ehi n) (hS : WS σ most B C n st 2 s) (hE : isE 26 E) (hV : VO σ t E) (he : VR s lo hi elo ehi E e) (hF : ∀ r w, WP B C 0 1 s st (envE (EV σ most n).2 E st) r w → F r w) : cm iv L h0 (3 * n + 9) 131 [vr 307, vi e] s (qi F) := by
  obtain ⟨m1, m2⟩ := hX.bc
  obtain ⟨a1, a2, a3, a4, a5⟩ := id hS
  obtain ⟨q1, q2, q3⟩ := id hH
  obtain ⟨c1, c2⟩ := (VR_E 26 E e hE (Nat.le_refl _)).mp he
  obtain ⟨ow, oo⟩ := EV_ok hX hFN n
  have key : ∀ (m x : Nat) (w : SM), x + m = 26 → ∀ R : RS, R = envE (EV σ most n).2 (tkE m E) st → R.2.1 = 0 → FRM s w → (s.1 52 ≤ w.1 52 ∧ w.1 52 ≤ s.1 52 + 2 * (R.1 - st)) → (s.1 54 + 1 ≤ w.1 54 ∧ w.1 54 ≤ s.1 54 + 1 + 2 * (R.1 - st)) → (w.1 56 = R.1 ∧ w.1 58 = s.1 58 ∧ w.1 59 = 0 ∧ w.1 60 = -9) → (∀ y : Int, 0 ≤ y → y < x → EL w (s.1 52) (w.1 52) (s.1 54 + 1) (w.1 54) R.2.2.2 (s.1 54) y) → (∀ y : Int, (x : Int) ≤ y → y < 26 → w.2 53 (26 * s.1 54 + y) = -9) → wm iv L h0 (3 * n + 9) 131 9 [lr 307, li e, li (s.1 54), li x] [] w (qi F) := by
    intro m
    induction m with
    | zero =>
      intro x w hx R hR hR0 w1 w2 w3 w4 w5 w6
      obtain rfl : x = 26 := by omega
      have hRE := env_ok oo 26 E st hE hV a3.2
      rw [show envE (EV σ most n).2 E st = R from hR.symm] at hRE
      obtain ⟨e1, e2, e3⟩ := hRE
      obtain ⟨e4, e5, e6, e7⟩ := e3 hR0
      refine B131_9 ⟨fun _ => hF _ w ?_, fun q => by omega⟩
      rw [show envE (EV σ most n).2 E st = R from hR.symm]
      refine ⟨w1, ⟨w2.1, by omega⟩, ⟨by omega, by omega⟩, ⟨w4.1, w4.2.1, w4.2.2.1.trans hR0.symm, w4.2.2.2.trans e4.symm⟩, fun _ => (VR_E 26 _ _ e5 (Nat.le_refl _)).mpr ⟨by omega, fun y y0 y1 => ?_⟩⟩
      exact (w5 y y0 (by omega)).imp id (fun q => ⟨q.1, VR_g q.2 ⟨fun _ _ _ _ _ => rfl, fun _ _ _ => rfl⟩ (by omega) (Int.le_refl _) (by omega) (Int.le_refl _)⟩)
    | succ m ih =>
      intro x w hx R hR hR0 w1 w2 w3 w4 w5 w6
      have hE' : isE (x + (m + 1)) E := by rw [hx]; exact hE
      have tk := tkE_s m x E hE'
      have hP := tkE_is (m + 1) x E hE'
      have hRE := env_ok oo x (tkE (m + 1) E) st hP (VN_tk _ _ hV) a3.2
      rw [← hR] at hRE
      obtain ⟨e1, e2, e3⟩ := hRE
      obtain ⟨e4, e5, e6, e7⟩ := e3 hR0
      have hl5 := isE_len x _ e5
      have nxt : envE (EV σ most n).2 (tkE m E) st = bnR (optE (fun x => (EV σ most n).2 x R.1) R.1 (lkE E x)) (fun st y => rok st (.mul R.2.2.2 y)) := by
        rw [tk]
        show bnR (envE (EV σ most n).2 (tkE (m + 1) E) st) _ = _
        rw [← hR, bnR_0 hR0]
      have hkp := w1.keep (lo := lo) (hi := hi) (elo := elo) (ehi := ehi) (by omega) (by omega)
      have e53 : w.2 53 (26 * e + x) = s.2 53 (26 * e + x) := hkp.2 _ (by omega) (by omega)
      refine B131_9 ⟨fun q => by omega, fun _ => ⟨fun q => absurd w4.2.2.1 q, fun _ => ⟨by omega, by omega, by omega, by omega, by omega, ?_⟩⟩⟩
      rw [e53]
      have elk : ∀ (z y : Int) (V : Term), lkE (.mul R.2.2.2 V) y = if (x : Int) = y then V else lkE R.2.2.2 y := fun z y V => by
        show (if (mlen R.2.2.2 : Int) = y then V else lkE R.2.2.2 y) = _
        rw [hl5]
      rcases c2 x (by omega) (by omega) with ⟨l1, l2⟩ | ⟨l1, l2⟩
      · refine ⟨fun q => absurd l2 q, fun _ => ⟨by omega, by omega, ?_⟩⟩
        rw [l1, optE_n, bnR_0 rfl] at nxt
        have := ih (x + 1) (ua w 53 (26 * s.1 54 + x) (-9)) (by omega) (rok R.1 (.mul R.2.2.2 .null)) nxt.symm rfl ⟨w1.1.tr (eqx_ua eqx.rf (by decide)), fun f v hf hv => by rw [ua_2, if_neg (by omega)]; exact w1.2.1 f v hf hv, fun j hj => by
          have hj : j < 26 * s.1 54 ∨ 26 * w.1 54 ≤ j := hj
          rw [ua_2, if_neg (by omega)]; exact w1.2.2 j hj⟩ w2 w3 w4 (fun y y0 y1 => ?_) (fun y y0 y1 => ?_)
        · rw [show ((x + 1 : Nat) : Int) = (x : Int) + 1 by omega] at this
          exact this
        · show EL _ _ _ _ _ (.mul R.2.2.2 .null) _ _
          unfold EL
          rw [elk 0 y .null, ua_2]
          by_cases q : y = x
          · rw [if_pos q.symm, if_pos (by rw [q]; exact ⟨rfl, rfl⟩)]; exact Or.inl ⟨rfl, rfl⟩
          · rw [if_neg (Ne.symm q), if_neg (by omega)]
            exact (w5 y y0 (by omega)).imp id (fun q => ⟨q.1, VR_k q.2 ⟨fun f _ _ _ _ => by rw [ua_2, if_neg (by omega)], fun j j0 j1 => by rw [ua_2, if_neg (by omega)]⟩ (Int.le_refl _) (Int.le_refl _)⟩)
        · rw [ua_2, if_neg (by omega)]
          exact w6 y (by omega) y1
      · have hv := VN_lk E x hV l1
        have v9 : s.2 53 (26 * e + x) ≠ -9 := by have := (VR_kind hv.1 l2).2.1; omega
        refine ⟨fun _ => ?_, fun q => absurd q v9⟩
        rw [optE_v l1] at nxt
        obtain ⟨o1, o2, o3⟩ := oo (lkE E x) R.1 hv.1 hv.2 e1.2
        have Sw : WS σ most (w.1 52) (w.1 54) n R.1 0 w := ⟨a1.tr w1.1, ⟨w4.1, by rw [w4.2.1]; exact a2.2.1, w4.2.2.1, w4.2.2.2⟩, by omega, ⟨Int.le_refl _, by omega⟩, Int.le_refl _, by omega⟩
        refine wci_mono (hO (w.1 52) (w.1 54) _ R.1 (lkE E x) w (hX.at (by omega)) hv.1 hv.2 (VR_k l2 hkp (Int.le_refl _) (Int.le_refl _)) Sw) (by omega) ?_
        rintro r u ⟨hu, hu9⟩
        obtain ⟨u1, u2, u3, u4, u5⟩ := hu
        have fsu : FRM s u := w1.tr u1 ⟨w2.1, u2.1⟩ ⟨by omega, u3.1⟩
        have fsu' : FRM s (ua u 53 (26 * s.1 54 + x) r) := ⟨fsu.1.tr (eqx_ua eqx.rf (by decide)), fun f v hf hv => by rw [ua_2, if_neg (by omega)]; exact fsu.2.1 f v hf hv, fun j hj => by
          have hj : j < 26 * s.1 54 ∨ 26 * u.1 54 ≤ j := hj
          rw [ua_2, if_neg (by omega)]; exact fsu.2.2 j hj⟩
        refine ⟨by omega, by omega, ?_⟩
        by_cases g0 : ((EV σ most n).2 (lkE E x) R.1).2.1 = 0
        · obtain ⟨x1, x2, x3⟩ := o3 g0
          rw [bnR_0 g0] at nxt
          have hv2 : VR u (w.1 52) (u.1 52) (w.1 54) (u.1 54) ((EV σ most n).2 (lkE E x) R.1).2.2.2 r := u5 g0
          have kk : ∀ a b, s.1 54 + 1 ≤ b → KEEP u (ua u 53 (26 * s.1 54 + x) r) a (u.1 52) b (u.1 54) := fun a b hb => ⟨fun f _ _ _ _ => by rw [ua_2, if_neg (by omega)], fun j j0 j1 => by rw [ua_2, if_neg (by omega)]⟩
          have kwu := u1.keep (lo := s.1 52) (elo := s.1 54 + 1) (Or.inl (Int.le_refl _)) (Or.inl (Int.le_refl _))
          have := ih (x + 1) (ua u 53 (26 * s.1 54 + x) r) (by omega) _ nxt.symm rfl fsu' ⟨by show s.1 52 ≤ u.1 52; omega, by show u.1 52 ≤ s.1 52 + 2 * (((EV σ most n).2 (lkE E x) R.1).1 - st); omega⟩ ⟨by show s.1 54 + 1 ≤ u.1 54; omega, by show u.1 54 ≤ s.1 54 + 1 + 2 * (((EV σ most n).2 (lkE E x) R.1).1 - st); omega⟩ ⟨u4.1, u4.2.1.trans w4.2.1, u4.2.2.1.trans g0, u4.2.2.2.trans x1⟩ (fun y y0 y1 => ?_) (fun y y0 y1 => ?_)
          · rw [show ((x + 1 : Nat) : Int) = (x : Int) + 1 by omega] at this
            exact this
          · show EL _ _ _ _ _ (.mul R.2.2.2 ((EV σ most n).2 (lkE E x) R.1).2.2.2) _ _
            unfold EL
            rw [elk 0 y, ua_2]
            by_cases q : y = x
            · rw [if_pos q.symm, if_pos (by rw [q]; exact ⟨rfl, rfl⟩)]
              exact Or.inr ⟨isV_nn x2, VR_g hv2 (kk _ _ (by omega)) w2.1 (Int.le_refl _) (by omega) (Int.le_refl _)⟩
            · rw [if_neg (Ne.symm q), if_neg (by omega), u1.2.2 _ (by omega)]
              exact (w5 y y0 (by omega)).imp id (fun q => ⟨q.1, VR_k (VR_k q.2 kwu u2.1 u3.1) (kk _ _ (Int.le_refl _)) (Int.le_refl _) (Int.le_refl _)⟩)
          · rw [ua_2, if_neg (by omega), u1.2.2 _ (by omega)]
            exact w6 y (by omega) y1
        · rw [bnR_n g0] at nxt
          have sE := stopE m E (by rw [nxt]; exact g0)
          have gp : 0 < ((EV σ most n).2 (lkE E x) R.1).2.1 := by have := o2.resolve_left g0; omega
          have ul : (ua u 53 (26 * s.1 54 + x) r).1 59 = ((EV σ most n).2 (lkE E x) R.1).2.1 := u4.2.2.1
          have fin : F (s.1 54) (ua u 53 (26 * s.1 54 + x) r) := by
            refine hF _ _ ?_
            rw [sE, nxt]
            refine ⟨fsu', ⟨by show s.1 52 ≤ u.1 52; omega, by show u.1 52 ≤ _; omega⟩, ⟨by show s.1 54 ≤ u.1 54; omega, by show u.1 54 ≤ _; omega⟩, ⟨u4.1, u4.2.1.trans w4.2.1, u4.2.2⟩, fun c => absurd c g0⟩
          exact B131_9 ⟨fun _ => fin, fun _ => ⟨fun _ => fin, fun c => by rw [ul] at c; exact absurd c g0⟩⟩
  rw [show 3 * n + 9 = (3 * n + 8) + 1 by omega]
  refine B131 (newEnv_ok (by omega) (Or.inl rfl) (fun w hw => ?_))
  obtain ⟨w1, w2, w3, w4⟩ := hw
  have w52 : w.1 52 = s.1 52 := w1.1 52 (by decide)
  refine key 26 0 w (by decide) (rok st .null) ?_ rfl ⟨w1.up (by decide) (by decide), fun f v hf _ => by rw [w1.2 f (by simp; omega)], fun j hj => w3 j (by omega)⟩ ⟨by omega, by show w.1 52 ≤ s.1 52 + 2 * (st - st); omega⟩ ⟨by omega, by show w.1 54 ≤ s.1 54 + 1 + 2 * (st - st); omega⟩ ⟨by rw [w1.1 56 (by decide)]; exact a2.1, w1.1 58 (by decide), by rw [w1.1 59 (by decide)]; exact a2.2.2.1, by rw [w1.1 60 (by decide)]; exact a2.2.2.2⟩ (fun y y0 y1 => by omega) (fun y y0 y1 => ?_)
  · have := tkE_is 26 0 E hE
    cases h : tkE 26 E with
    | null => rfl
    | _ => rw [h] at this; exact this.elim
  · have := w4 y (by omega) y1
    rw [if_pos rfl] at this
    exact this
end
