/-! The pools of the desk: cells for what is seen, taken anew: C201. -/
/-- a seen cell was taken -/
def STK (c f : SC) (p a : Nat) : Prop := (CX [(6, 3)] [p + 2] c f ∧ RMP c f ∧ fI f p 2 = fI c p 2 ∧ fI f p 3 = fI c p 3 + 1) ∧ (353 ≤ a ∧ a < nxt f ∧ kl f a = 7) ∧ (¬ LIV c p a ∧ YNG f p a ∧ (∀ x, LIV c p x → LIV f p x) ∧ ∀ x, YNG c p x → YNG f p x) ∧ PL2 f
section
variable {iv : List (Int × Int)} {L : Nat} {h0 : MH} {A A' : Int → Nat} {P : Nat → Prop} {c c0 e f : SC} {s s' w : SM} {t : Term} {d p : Nat} {ys : List (Nat × Nat)} {rs : List Nat}
def sini (c : SC) : SC := uR (uR (uI (nO c 6) (nxt c) 0 0) (nxt c) 1 2) (nxt c) 2 2
theorem sini_ok (h3 : 353 ≤ nxt c) : CX [] [] c (sini c) ∧ nxt (sini c) = nxt c + 1 ∧ slo (sini c) = slo c + 3 ∧ kl (sini c) (nxt c) = 7 ∧ (∀ a, aR (sini c) a = aR c a) ∧ ∀ a y, a < nxt c → fI (sini c) a y = fI c a y ∧ kl (sini c) a = kl c a := by
  unfold sini
  refine ⟨?_, rfl, rfl, ?_, fun a => rfl, fun a y ha => ⟨?_, ?_⟩⟩
  · have hI : ∀ {e : SC} {y : Nat} {z : Int}, CX [] [] c e → CX [] [] c (uI e (nxt c) y z) := fun h => h.uI (fun q => absurd q (Nat.lt_irrefl _))
    have hR : ∀ {e : SC} {y z : Nat}, CX [] [] c e → CX [] [] c (uR e (nxt c) y z) := fun h => h.uR (fun q => absurd q (Nat.lt_irrefl _))
    exact hR (hR (hI CX.rf.nO))
  · simp only [kl_uI, kl_uR, kl_nO]; rw [if_pos trivial]
  · simp only [fI_uI, fI_uR, fI_nO]
    have : ¬ (a = nxt c) := by omega
    simp [this]
  · simp only [kl_uI, kl_uR, kl_nO]
    rw [if_neg (by omega)]
theorem sini_c {F : SC → Prop} (h3 : 353 ≤ nxt c) (H : F (sini c)) : ck iv L h0 d 202 [vr (nxt c)] (nO c 6) (qv F) := C202 ⟨by omega, by rw [kl_nO, if_pos rfl], H⟩
/-- one cell more in use -/
theorem stk_1 (hX : FIX c) (hp : p = 177 ∨ p = 180) (hP : PL2 c) (hu : fI c p 3 < 320) (ha : aR c (p + 2) (fI c p 3) ≠ 2) : STK c (uI c p 3 (fI c p 3 + 1)) p (aR c (p + 2) (fI c p 3)) := by
  obtain ⟨k1, k2, k3, k4, k5, k6, k7⟩ := hX.pl hp
  obtain ⟨q1, q2, q3⟩ := hP
  obtain ⟨⟨⟨a1, a2⟩, a3, a4⟩, a5, a6⟩ := q1 p hp
  obtain ⟨b1, b2, b3⟩ := (a6 _ a3 hu).resolve_left ha
  have h353 := hX.2.2.1
  have n3 : fI (uI c p 3 (fI c p 3 + 1)) p 3 = fI c p 3 + 1 := by rw [fI_uI, if_pos ⟨rfl, rfl⟩]
  have n2 : fI (uI c p 3 (fI c p 3 + 1)) p 2 = fI c p 2 := by rw [fI_uI, if_neg (by omega)]
  have hne7 : ∀ i, 0 ≤ i → i < 620 → aR c (p + 1) i ≠ aR c (p + 2) (fI c p 3) := fun i i0 i1 w => by
    rcases a5 i i0 i1 with z | ⟨-, -, z⟩
    · exact ha (w ▸ z)
    · rw [w, b3] at z; omega
  have hLL : ∀ x, LIV c p x → LIV (uI c p 3 (fI c p 3 + 1)) p x := fun x hx => ⟨hx.1, fun i i0 i1 => hx.2.1 i (by rw [n2] at i0; exact i0) i1, fun i i0 i1 => hx.2.2 i (by rw [n3] at i0; omega) i1⟩
  refine ⟨⟨CX.rf.uI (fun _ => by unfold ky; rw [if_neg (by omega), k1]; decide), RMP.rf, n2, n3⟩, ⟨b1, b2, b3⟩, ⟨fun w => w.2.2 _ (Int.le_refl _) hu rfl, ⟨⟨⟨b1, b2⟩, fun i i0 i1 w => ?_, fun i i0 i1 w => ?_⟩, fun q hq hn => ⟨fun i i0 i1 w => ?_, fun i i0 i1 w => hn (q3 q p i _ hq hp i0 i1 a3 hu w (by rw [show aR c (q + 2) i = aR c (p + 2) (fI c p 3) from w]; exact ha)).1⟩⟩, hLL, yng_up hLL (fun q i hq hn => ⟨rfl, rfl⟩)⟩, ⟨fun q hq => ?_, q2, q3⟩⟩
  · rw [n2] at i0
    exact hne7 i (by omega) i1 w
  · rw [n3] at i0
    have w : aR c (p + 2) i = aR c (p + 2) (fI c p 3) := w
    have := (q3 p p i (fI c p 3) hp hp (by omega) i1 a3 hu w (by rw [w]; exact ha)).2
    omega
  · rcases (q1 q hq).2.1 i i0 i1 with z | ⟨-, -, z⟩
    · exact ha ((show aR c (q + 1) i = aR c (p + 2) (fI c p 3) from w) ▸ z)
    · rw [show aR c (q + 1) i = aR c (p + 2) (fI c p 3) from w, b3] at z; omega
  · obtain ⟨⟨⟨c1, c2⟩, c3, c4⟩, c5, c6⟩ := q1 q hq
    refine ⟨?_, c5, c6⟩
    by_cases w : q = p
    · subst w
      rw [n2, n3]
      exact ⟨⟨a1, a2⟩, by omega, by omega⟩
    · rw [fI_uI, if_neg (fun z => w z.2), fI_uI, if_neg (fun z => w z.2)]
      exact ⟨⟨c1, c2⟩, c3, c4⟩
/-- a cell made, kept in the pool -/
theorem stk_2 (hX : FIX c) (hp : p = 177 ∨ p = 180) (hP : PL2 c) (hu : fI c p 3 < 320) (ha : aR c (p + 2) (fI c p 3) = 2) : STK c (uI (uB (sini c) (p + 2) (fI c p 3) (nxt c)) p 3 (fI c p 3 + 1)) p (nxt c) := by
  obtain ⟨k1, k2, k3, k4, k5, k6, k7⟩ := hX.pl hp
  obtain ⟨q1, q2, q3⟩ := hP
  have hPp := q1 p hp
  obtain ⟨⟨⟨a1, a2⟩, a3, a4⟩, a5, a6⟩ := hPp
  have h353 := hX.2.2.1
  obtain ⟨v1, v2, v3, v4, v5, v6⟩ := sini_ok h353
  generalize hg : sini c = g at v1 v2 v3 v4 v5 v6
  generalize hu' : fI c p 3 = u at *
  have gx : CX [(6, 3)] [p + 2] c (uI (uB g (p + 2) u (nxt c)) p 3 (u + 1)) := by
    refine CX.uI (CX.uB (v1.up (fun _ w => by cases w) (fun _ w => by cases w)) (fun _ => ?_)) (fun _ => ?_)
    · unfold rk; rw [if_pos (by omega)]; exact List.mem_singleton.mpr rfl
    · rw [kl_uB, (v6 p 0 (by omega)).2, k1]; unfold ky; rw [if_neg (by omega)]; decide
  have eI : ∀ a y, a < nxt c → fI (uI (uB g (p + 2) u (nxt c)) p 3 (u + 1)) a y = if y = 3 ∧ a = p then u + 1 else fI c a y := fun a y h => by rw [fI_uI, fI_uB, (v6 a y h).1]
  have eB : ∀ a i, aR (uI (uB g (p + 2) u (nxt c)) p 3 (u + 1)) a i = if a = p + 2 ∧ i = u then nxt c else aR c a i := fun a i => by rw [aR_uI, aR_uB, v5]
  have eK : ∀ a, a < nxt c → kl (uI (uB g (p + 2) u (nxt c)) p 3 (u + 1)) a = kl c a := fun a h => by rw [kl_uI, kl_uB, (v6 a 0 h).2]
  have eN : nxt (uI (uB g (p + 2) u (nxt c)) p 3 (u + 1)) = nxt c + 1 := v2
  have eS : slo (uI (uB g (p + 2) u (nxt c)) p 3 (u + 1)) = slo c + 3 := v3
  have e10 : kl (uI (uB g (p + 2) u (nxt c)) p 3 (u + 1)) (nxt c) = 7 := v4
  generalize uI (uB g (p + 2) u (nxt c)) p 3 (u + 1) = f at gx eI eB eK eN eS e10
  have f2 : fI f p 2 = fI c p 2 := by rw [eI p 2 (by omega), if_neg (by omega)]
  have f3 : fI f p 3 = u + 1 := by rw [eI p 3 (by omega), if_pos ⟨rfl, rfl⟩]
  have rowlt : ∀ q i, (q = 177 ∨ q = 180) → 0 ≤ i → i < 620 → aR c (q + 1) i < nxt c := fun q i hq i0 i1 => by
    rcases (q1 q hq).2.1 i i0 i1 with z | z <;> omega
  have rowlt2 : ∀ q i, (q = 177 ∨ q = 180) → 0 ≤ i → i < 320 → aR c (q + 2) i < nxt c := fun q i hq i0 i1 => by
    rcases (q1 q hq).2.2 i i0 i1 with z | z <;> omega
  have s2 : ∀ q i, (q = 177 ∨ q = 180) → aR f (q + 1) i = aR c (q + 1) i := fun q i hq => by rw [eB, if_neg (by omega)]
  have s1 : ∀ q i, (q = 177 ∨ q = 180) → ¬ (q = p ∧ i = u) → aR f (q + 2) i = aR c (q + 2) i := fun q i hq h => by rw [eB, if_neg (by omega)]
  have s0 : aR f (p + 2) u = nxt c := by rw [eB, if_pos ⟨rfl, rfl⟩]
  have hphi : PHI f + 1 = PHI c := by
    have hd : ∀ q, q ≠ p + 2 → aR f q = aR c q := fun q hq => by funext i; rw [eB, if_neg (fun z => hq z.1)]
    have hup : cnz (aR f (p + 2)) 320 + 1 = cnz (aR c (p + 2)) 320 := cnz_up (x := nxt c) ha (by omega) (fun i => by rw [eB]; simp) 320 a3 hu
    unfold PHI
    rcases hp with rfl | rfl
    · rw [hd 178 (by decide), hd 181 (by decide), hd 182 (by decide)]
      have hup : cnz (aR f 179) 320 + 1 = cnz (aR c 179) 320 := hup
      omega
    · rw [hd 178 (by decide), hd 179 (by decide), hd 181 (by decide)]
      have hup : cnz (aR f 182) 320 + 1 = cnz (aR c 182) 320 := hup
      omega
  have hLL : ∀ x, LIV c p x → LIV f p x := fun x hx => by
    refine ⟨⟨hx.1.1, by have := hx.1.2; omega⟩, fun i i0 i1 => ?_, fun i i0 i1 => ?_⟩
    · rw [f2] at i0
      rw [s2 p i hp]
      exact hx.2.1 i i0 i1
    · rw [f3] at i0
      rw [s1 p i hp (by omega)]
      exact hx.2.2 i (by omega) i1
  refine ⟨⟨gx, ⟨⟨by omega, by omega⟩, by omega, fun a ha => eK a ha, fun a a1 a2 => by rw [show a = nxt c by omega, e10]; decide⟩, f2, by rw [hu']; exact f3⟩, ⟨by omega, by omega, e10⟩, ⟨fun w => by have := w.1.2; omega, ⟨⟨⟨by omega, by omega⟩, fun i i0 i1 w => ?_, fun i i0 i1 w => ?_⟩, fun q hq hn => ⟨fun i i0 i1 w => ?_, fun i i0 i1 w => ?_⟩⟩, hLL, yng_up hLL (fun q i hq hn => ⟨s2 q i hq, s1 q i hq (fun z => hn z.1)⟩)⟩, ⟨fun q hq => ?_, fun r q i j hr hq i0 i1 j0 j1 he hn => ?_, fun r q i j hr hq i0 i1 j0 j1 he hn => ?_⟩⟩
  · rw [f2] at i0
    rw [s2 p i hp] at w
    have := rowlt p i hp (by omega) i1
    omega
  · rw [f3] at i0
    rw [s1 p i hp (by omega)] at w
    have := rowlt2 p i hp (by omega) i1
    omega
  · rw [s2 q i hq] at w
    have := rowlt q i hq i0 i1
    omega
  · rw [s1 q i hq (fun z => hn z.1)] at w
    have := rowlt2 q i hq i0 i1
    omega
  · obtain ⟨⟨⟨c1, c2⟩, c3, c4⟩, c5, c6⟩ := q1 q hq
    refine ⟨?_, fun i i0 i1 => ?_, fun i i0 i1 => ?_⟩
    · rw [eI q 2 (by omega), eI q 3 (by omega), if_neg (show ¬ (2 = 3 ∧ q = p) by omega)]
      by_cases w : q = p
      · rw [if_pos ⟨rfl, w⟩]; exact ⟨⟨c1, c2⟩, by omega, by omega⟩
      · rw [if_neg (fun z => w z.2)]; exact ⟨⟨c1, c2⟩, c3, c4⟩
    · rw [s2 q i hq]
      refine (c5 i i0 i1).imp id (fun z => ⟨z.1, by omega, ?_⟩)
      rw [eK _ z.2.1]; exact z.2.2
    · by_cases w : q = p ∧ i = u
      · rw [w.1, w.2, s0]; exact Or.inr ⟨by omega, by omega, e10⟩
      · rw [s1 q i hq w]
        refine (c6 i i0 i1).imp id (fun z => ⟨z.1, by omega, ?_⟩)
        rw [eK _ z.2.1]; exact z.2.2
  · rw [s2 r i hr] at he hn
    rw [s2 q j hq] at he
    exact q2 r q i j hr hq i0 i1 j0 j1 he hn
  · by_cases w : r = p ∧ i = u
    · by_cases w' : q = p ∧ j = u
      · exact ⟨w.1.trans w'.1.symm, w.2.trans w'.2.symm⟩
      · rw [w.1, w.2, s0, s1 q j hq w'] at he
        have := rowlt2 q j hq j0 j1
        omega
    · by_cases w' : q = p ∧ j = u
      · rw [w'.1, w'.2, s0, s1 r i hr w] at he
        have := rowlt2 r i hr i0 i1
        omega
      · rw [s1 r i hr w] at he hn
        rw [s1 q j hq w'] at he
        exact q3 r q i j hr hq i0 i1 j0 j1 he hn
end
def snY : List (Nat × Nat) := [(6, 3), (7, 0), (7, 1), (7, 2)]
/-- what is seen is new at a -/
def SNW (c e : SC) (p a : Nat) (x : Int) (v g : Nat) : Prop := (CX snY [p + 2] c e ∧ RMP c e ∧ fI e p 2 = fI c p 2 ∧ fI e p 3 = fI c p 3 + 1) ∧ ((STY (LIV c p) (LIV e p) c e ∧ STY (YNG c p) (YNG e p) c e) ∧ YNG e p a ∧ ¬ LIV c p a ∧ PL2 e) ∧ (353 ≤ a ∧ a < nxt e ∧ kl e a = 7) ∧ fI e a 0 = x ∧ fR e a 1 = v ∧ fR e a 2 = g
section
variable {iv : List (Int × Int)} {L : Nat} {h0 : MH} {A A' : Int → Nat} {P : Nat → Prop} {c c0 e f : SC} {s s' w : SM} {t : Term} {d p a v g : Nat} {x : Int} {ys : List (Nat × Nat)} {rs : List Nat}
theorem snw_of (hX : FIX c) (hp : p = 177 ∨ p = 180) (h : STK c f p a) : SNW c (uR (uR (uI f a 0 x) a 1 v) a 2 g) p a x v g := by
  obtain ⟨⟨h1, h2, h2a, h2b⟩, ⟨h3, h4, h5⟩, ⟨h6, h7, h8, h8'⟩, h9⟩ := h
  have h353 := hX.2.2.1
  have pa : p ≠ a := by omega
  have hky : ky a (kl f a) = 7 := by unfold ky; rw [if_neg (by omega), h5]
  have hx : CX snY [] f (uR (uR (uI f a 0 x) a 1 v) a 2 g) := CX.uR (CX.uR (CX.uI CX.rf (fun _ => by rw [hky]; decide)) (fun _ => by show (ky a (kl f a), 1) ∈ snY; rw [hky]; decide)) (fun _ => by show (ky a (kl f a), 2) ∈ snY; rw [hky]; decide)
  have ho : ∀ u z, u ≠ a → fI (uR (uR (uI f a 0 x) a 1 v) a 2 g) u z = fI f u z ∧ fR (uR (uR (uI f a 0 x) a 1 v) a 2 g) u z = fR f u z := fun u z hu => by
    simp only [fI_uI, fI_uR, fR_uI, fR_uR, hu, and_false, if_false]
    exact ⟨trivial, trivial⟩
  have eL : ∀ u, LIV f p u → LIV (uR (uR (uI f a 0 x) a 1 v) a 2 g) p u := LIV_eq rfl (fun v => (ho p v pa).1) (fun _ => rfl)
  have eY : ∀ u, YNG f p u → YNG (uR (uR (uI f a 0 x) a 1 v) a 2 g) p u := yng_up eL (fun q i hq hn => ⟨rfl, rfl⟩)
  have same : ∀ u, LIV c p u → (kl c u = 10 ∨ kl c u = 7 → kl (uR (uR (uI f a 0 x) a 1 v) a 2 g) u = kl c u ∧ ∀ y, y < 7 → fI (uR (uR (uI f a 0 x) a 1 v) a 2 g) u y = fI c u y ∧ fR (uR (uR (uI f a 0 x) a 1 v) a 2 g) u y = fR c u y) := fun u hu hku => by
    have ua : u ≠ a := fun w => h6 (w ▸ hu)
    refine ⟨h1.k hu.1.2, fun z _ => ?_⟩
    obtain ⟨o1, o2⟩ := ho u z ua
    rw [o1, o2]
    have hky : ky u (kl c u) = kl c u := by have := hu.1.1; unfold ky; rw [if_neg (by omega)]
    exact ⟨h1.i hu.1.2 (by rw [hky]; simp; omega), h1.r hu.1.2 (by rw [hky]; simp; omega)⟩
  refine ⟨⟨(h1.up (by decide) (fun _ w => w)).tr (hx.up (fun _ w => w) (fun _ w => by cases w)), h2, by rw [(ho p 2 pa).1]; exact h2a, by rw [(ho p 3 pa).1]; exact h2b⟩, ⟨⟨fun u hu => ⟨eL u (h8 u hu), same u hu⟩, fun u hu => ⟨eY u (h8' u hu), same u hu.1⟩⟩, eY a h7, h6, PL2_eq h9 rfl (fun q z hq => (ho q z (by omega)).1) (fun _ => rfl) (fun _ => rfl)⟩, ⟨h3, h4, h5⟩, ?_⟩
  · simp only [fI_uI, fI_uR, fR_uI, fR_uR, and_true]
    simp
theorem bind_c (hX : FIX c) (hp : p = 177 ∨ p = 180) (hP : PL2 c) (hu : fI c p 3 < 320) {F : Nat → SC → Prop} (hF : ∀ e a, SNW c e p a x v g → F a e) : ck iv L h0 (d + 1) 201 [vr p, vi x, vr v, vr g] c (qa F) := by
  obtain ⟨k1, k2, k3, k4, k5, k6, k7⟩ := hX.pl hp
  obtain ⟨⟨⟨a1, a2⟩, a3, a4⟩, a5, a6⟩ := hP.1 p hp
  have h353 := hX.2.2.1
  obtain ⟨v1, v2, v3, v4, v5, v6⟩ := sini_ok h353
  have pn : p < nxt c := by omega
  have p1n : p + 2 < nxt c := by omega
  refine C201 ⟨k1, by rw [k3, k6]; omega, fun h => ?_, fun h => ?_⟩
  · rw [k3, k7] at h
    simp only [k3, k6, k7]
    refine ⟨trivial, ⟨a3, h⟩, fun w => ?_, fun w => ?_⟩
    · exact ⟨by omega, ((a6 _ a3 h).resolve_left w).2.2, hF _ _ (snw_of hX hp (stk_1 hX hp hP h w))⟩
    · refine ⟨h353, by omega, sini_c h353 ?_⟩
      have q0 : fR (sini c) p 1 = p + 2 := by rw [v1.r pn (fun q => by cases q), k3]
      have q1 : fI (sini c) p 3 = fI c p 3 := (v6 p 3 pn).1
      have q2 : kl (sini c) (p + 2) = 107 := by rw [(v6 (p + 2) 0 p1n).2, k6]
      have q3 : le (sini c) (p + 2) = 320 := by rw [v1.l p1n, k7]
      have q4 : kl (sini c) p = 6 := by rw [(v6 p 0 pn).2, k1]
      have q5 : aR (uB (sini c) (p + 2) (fI c p 3) (nxt c)) (p + 2) (fI c p 3) = nxt c := by rw [aR_uB, if_pos ⟨rfl, rfl⟩]
      simp only [q0, q1, q2, q3, q4, q5]
      exact ⟨trivial, ⟨a3, h⟩, Or.inr v4, trivial, by omega, trivial, ⟨a3, h⟩, v4, hF _ _ (snw_of hX hp (stk_2 hX hp hP h w))⟩
  · rw [k3, k7] at h; omega
end
