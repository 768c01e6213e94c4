/-! A value made by the desk: C195 to C200. -/
def vset (f : SC) (a : Nat) (k n : Int) (b g : Nat) (q : Int) : SC := uI (uR (uR (uR (uR (uI (uI f a 0 k) a 1 n) a 2 b) a 3 2) a 4 2) a 5 g) a 6 q
def vaY : List (Nat × Nat) := [(6, 2), (10, 0), (10, 1), (10, 2), (10, 3), (10, 4), (10, 5), (10, 6)]
def vfl (k : Int) : Int := if 4 ≤ k then 1 else 0
/-- a value is new at a -/
def VNW (c e : SC) (p a : Nat) (k n : Int) (b x y g : Nat) (q : Int) : Prop := (CX vaY [p + 1] c e ∧ RMP c e ∧ fI e p 2 = fI c p 2 + 1 ∧ fI e p 3 = fI c p 3) ∧ ((STY (LIV c p) (LIV e p) c e ∧ STY (YNG c p) (YNG e p) c e) ∧ YNG e p a ∧ ¬ LIV c p a ∧ PL2 e) ∧ (353 ≤ a ∧ a < nxt e ∧ kl e a = 10) ∧ (fI e a 0 = k ∧ fI e a 1 = n ∧ fR e a 2 = b ∧ fR e a 3 = x ∧ fR e a 4 = y ∧ fR e a 5 = g ∧ fI e a 6 = q) ∧ ∀ u v, 353 ≤ u → u ≠ a → u < nxt c → kl c u ≠ 6 → fI e u v = fI c u v ∧ fR e u v = fR c u v
section
variable {iv : List (Int × Int)} {L : Nat} {h0 : MH} {A A' : Int → Nat} {P : Nat → Prop} {c c0 e f : SC} {s s' w : SM} {t : Term} {d p a : Nat} {ys : List (Nat × Nat)} {rs : List Nat}
theorem LIV_eq (h1 : nxt f = nxt e) (h2 : ∀ y, fI e p y = fI f p y) (h3 : ∀ a, aR e a = aR f a) (x : Nat) (h : LIV f p x) : LIV e p x := ⟨⟨h.1.1, by rw [← h1]; exact h.1.2⟩, fun i i0 i1 => by rw [h3]; exact h.2.1 i (by rw [h2] at i0; exact i0) i1, fun i i0 i1 => by rw [h3]; exact h.2.2 i (by rw [h2] at i0; exact i0) i1⟩
theorem PL2_eq (h : PL2 f) (h1 : nxt f = nxt e) (h2 : ∀ q y, (q = 177 ∨ q = 180) → fI e q y = fI f q y) (h3 : ∀ a, aR e a = aR f a) (h4 : ∀ a, kl e a = kl f a) : PL2 e := by
  obtain ⟨q1, q2, q3⟩ := h
  refine ⟨fun q hq => ?_, fun r q i j hr hq i0 i1 j0 j1 he hn => ?_, fun r q i j hr hq i0 i1 j0 j1 he hn => ?_⟩
  · obtain ⟨c1, c5, c6⟩ := q1 q hq
    refine ⟨by rw [h2 q 2 hq, h2 q 3 hq]; exact c1, fun i i0 i1 => ?_, fun i i0 i1 => ?_⟩
    · rw [h3, h4, ← h1]; exact c5 i i0 i1
    · rw [h3, h4, ← h1]; exact c6 i i0 i1
  · rw [h3] at he hn; rw [h3] at he
    exact q2 r q i j hr hq i0 i1 j0 j1 he hn
  · rw [h3] at he hn; rw [h3] at he
    exact q3 r q i j hr hq i0 i1 j0 j1 he hn
/-- fields of the new cell alone are set -/
theorem vnw_of {k n q : Int} {b x y g : Nat} (hX : FIX c) (hp : p = 177 ∨ p = 180) (h : VTK c f p a) (hx : CX vaY [] f e) (hn : nxt e = nxt f) (hs : slo e = slo f) (hk : ∀ u, kl e u = kl f u) (hr : ∀ u, aR e u = aR f u) (ho : ∀ u v, u ≠ a → fI e u v = fI f u v ∧ fR e u v = fR f u v) (hv : fI e a 0 = k ∧ fI e a 1 = n ∧ fR e a 2 = b ∧ fR e a 3 = x ∧ fR e a 4 = y ∧ fR e a 5 = g ∧ fI e a 6 = q) : VNW c e p a k n b x y g q := by
  obtain ⟨⟨h1, h2, h2a, h2b⟩, ⟨h3, h4, h5⟩, ⟨h6, h7, h8, h8'⟩, h9⟩ := h
  have h353 := hX.2.2.1
  have pa : p ≠ a := by omega
  have hphi : PHI e = PHI f := by unfold PHI; rw [hr, hr, hr, hr]
  have eL : ∀ u, LIV f p u → LIV e p u := LIV_eq hn.symm (fun v => (ho p v pa).1) hr
  have old : ∀ u v, 353 ≤ u → u ≠ a → u < nxt c → kl c u ≠ 6 → fI e u v = fI c u v ∧ fR e u v = fR c u v := fun u v u0 ua un u6 => by
    obtain ⟨o1, o2⟩ := ho u v ua
    rw [o1, o2]
    have hky : ky u (kl c u) = kl c u := by unfold ky; rw [if_neg (by omega)]
    exact ⟨h1.i un (by rw [hky]; simp; omega), h1.r un (by rw [hky]; simp; omega)⟩
  have eY : ∀ u, YNG f p u → YNG e p u := yng_up eL (fun q i hq hn => ⟨by rw [hr], by rw [hr]⟩)
  have same : ∀ u, LIV c p u → (kl c u = 10 ∨ kl c u = 7 → kl e u = kl c u ∧ ∀ y, y < 7 → fI e u y = fI c u y ∧ fR e u y = fR c u y) := fun u hu hku => by
    have ua : u ≠ a := fun w => h6 (w ▸ hu)
    refine ⟨by rw [hk, h1.k hu.1.2], fun v _ => ?_⟩
    obtain ⟨o1, o2⟩ := ho u v ua
    rw [o1, o2]
    have hky : ky u (kl c u) = kl c u := by have := hu.1.1; unfold ky; rw [if_neg (by omega)]
    exact ⟨h1.i hu.1.2 (by rw [hky]; simp; omega), h1.r hu.1.2 (by rw [hky]; simp; omega)⟩
  exact ⟨⟨(h1.up (by decide) (fun _ w => w)).tr (hx.up (fun _ w => w) (fun _ w => by cases w)), ⟨⟨by rw [hn, hphi]; exact h2.1.1, by rw [hs, hphi]; exact h2.1.2⟩, by rw [hn]; exact h2.2.1, fun a ha => by rw [hk]; exact h2.2.2.1 a ha, fun a a1 a2 => by rw [hk]; exact h2.2.2.2 a a1 (by rw [← hn]; exact a2)⟩, by rw [(ho p 2 pa).1]; exact h2a, by rw [(ho p 3 pa).1]; exact h2b⟩, ⟨⟨fun u hu => ⟨eL u (h8 u hu), same u hu⟩, fun u hu => ⟨eY u (h8' u hu), same u hu.1⟩⟩, eY a h7, h6, PL2_eq h9 hn.symm (fun q v hq => (ho q v (by omega)).1) hr hk⟩, ⟨h3, by rw [hn]; exact h4, by rw [hk]; exact h5⟩, hv, old⟩
end
section
variable {iv : List (Int × Int)} {L : Nat} {h0 : MH} {A A' : Int → Nat} {P : Nat → Prop} {c c0 e f : SC} {s s' w : SM} {t : Term} {d p a b g x y : Nat} {k n : Int} {ys : List (Nat × Nat)} {rs : List Nat}
theorem vini_c {F : SC → Prop} (h3 : 353 ≤ nxt c) (H : F (vini c)) : ck iv L h0 d 224 [vr (nxt c)] (nO c 9) (qv F) := C224 ⟨by omega, by rw [kl_nO, if_pos rfl], H⟩
theorem left_c {G : Int → SC → Prop} (hk : kl f a = 10) (h : ∀ z, z = vfl k → G z (uR (uR (uR (uR (uI (uI f a 0 k) a 1 n) a 2 b) a 3 2) a 4 2) a 5 g)) : ck iv L h0 d 225 [vr a] (uR (uR (uR (uR (uI (uI f a 0 k) a 1 n) a 2 b) a 3 2) a 4 2) a 5 g) (qi G) := by
  have e0 : fI (uR (uR (uR (uR (uI (uI f a 0 k) a 1 n) a 2 b) a 3 2) a 4 2) a 5 g) a 0 = k := by
    simp only [fI_uR, fI_uI]
    rw [if_neg (by omega), if_pos ⟨trivial, trivial⟩]
  refine C225 ⟨hk, fun q => h 0 ?_, fun q => h 1 ?_⟩
  · rw [e0] at q; unfold vfl; rw [if_neg (by omega)]
  · rw [e0] at q; unfold vfl; rw [if_pos q]
theorem vfl01 (k : Int) : vfl k = 0 ∨ vfl k = 1 := by unfold vfl; split <;> simp
/-- a value's cell: C195 -/
theorem made_c (hX : FIX c) (hp : p = 177 ∨ p = 180) (hP : PL2 c) (hu : fI c p 2 < 620) {F : Nat → SC → Prop} (hF : ∀ f a, VTK c f p a → F a (vset f a k n b g (vfl k))) : ck iv L h0 (d + 1) 195 [vr p, vi k, vi n, vr b, vr g] c (qa F) := by
  obtain ⟨k1, k2, k3, k4, k5, k6, k7⟩ := hX.pl hp
  obtain ⟨⟨⟨a1, a2⟩, a3, a4⟩, a5, a6⟩ := hP.1 p hp
  have h353 := hX.2.2.1
  obtain ⟨v1, v2, v3, v4, v5, v6⟩ := vini_ok h353
  have pn : p < nxt c := by omega
  have p1n : p + 1 < nxt c := by omega
  refine C195 ⟨k1, by rw [k2, k4]; omega, fun h => ?_, fun h => ?_⟩
  · rw [k2, k5] at h
    simp only [k2, k4, k5]
    refine ⟨trivial, ⟨a1, h⟩, fun w => ?_, fun w => ?_⟩
    · refine ⟨by omega, ((a5 _ a1 h).resolve_left w).2.2, left_c ((a5 _ a1 h).resolve_left w).2.2 (fun z hz => ?_)⟩
      subst hz
      exact ⟨vfl01 k, ((a5 _ a1 h).resolve_left w).2.2, hF _ _ (vtk_1 hX hp hP h w)⟩
    · refine ⟨h353, by omega, vini_c h353 ?_⟩
      have q0 : fR (vini c) p 0 = p + 1 := by rw [v1.r pn (fun q => by cases q), k2]
      have q1 : fI (vini c) p 2 = fI c p 2 := (v6 p 2 pn).1
      have q2 : kl (vini c) (p + 1) = 106 := by rw [(v6 (p + 1) 0 p1n).2, k4]
      have q3 : le (vini c) (p + 1) = 620 := by rw [v1.l p1n, k5]
      have q4 : kl (vini c) p = 6 := by rw [(v6 p 0 pn).2, k1]
      have q5 : aR (uB (vini c) (p + 1) (fI c p 2) (nxt c)) (p + 1) (fI c p 2) = nxt c := by rw [aR_uB, if_pos ⟨rfl, rfl⟩]
      simp only [q0, q1, q2, q3, q4, q5]
      refine ⟨trivial, ⟨a1, h⟩, Or.inr v4, trivial, by omega, trivial, ⟨a1, h⟩, v4, left_c v4 (fun z hz => ?_)⟩
      subst hz
      exact ⟨vfl01 k, v4, hF _ _ (vtk_2 hX hp hP h w)⟩
  · rw [k2, k5] at h; omega
theorem vset_ok (f : SC) (a : Nat) (k n : Int) (b g : Nat) (q : Int) (hka : ky a (kl f a) = 10) : CX vaY [] f (vset f a k n b g q) := by
  unfold vset
  have m : ∀ y, y < 7 → ((ky a (kl f a), y) ∈ vaY) := fun y hy => by rw [hka]; unfold vaY; match y, hy with
    | 0, _ => decide
    | 1, _ => decide
    | 2, _ => decide
    | 3, _ => decide
    | 4, _ => decide
    | 5, _ => decide
    | 6, _ => decide
    | (_ + 7), h => omega
  exact CX.uI (CX.uR (CX.uR (CX.uR (CX.uR (CX.uI (CX.uI CX.rf (fun _ => m 0 (by omega))) (fun _ => m 1 (by omega))) (fun _ => m 2 (by omega))) (fun _ => m 3 (by omega))) (fun _ => m 4 (by omega))) (fun _ => m 5 (by omega))) (fun _ => m 6 (by omega))
end
section
variable {iv : List (Int × Int)} {L : Nat} {h0 : MH} {A A' : Int → Nat} {P : Nat → Prop} {c c0 e f : SC} {s s' w : SM} {t : Term} {d p a b g x y : Nat} {k n q q' : Int} {ys : List (Nat × Nat)} {rs : List Nat}
theorem VTK.hk (hX : FIX c) (h : VTK c f p a) : ky a (kl f a) = 10 := by
  obtain ⟨-, ⟨h3, h4, h5⟩, -⟩ := h
  unfold ky
  rw [if_neg (by omega), h5]
theorem vnw_0 (hX : FIX c) (hp : p = 177 ∨ p = 180) (h : VTK c f p a) : VNW c (vset f a k n b g q) p a k n b 2 2 g q := by
  refine vnw_of hX hp h (vset_ok f a k n b g q (h.hk hX)) rfl rfl (fun _ => rfl) (fun _ => rfl) (fun u v hu => ?_) ?_
  · unfold vset
    simp only [fI_uI, fI_uR, fR_uI, fR_uR, hu, and_false, if_false]
    exact ⟨trivial, trivial⟩
  · unfold vset
    simp only [fI_uI, fI_uR, fR_uI, fR_uR, and_true]
    simp
theorem vnw_2 {x y : Nat} (hX : FIX c) (hp : p = 177 ∨ p = 180) (h : VTK c f p a) : VNW c (uI (uR (uR (vset f a k n b g q) a 3 x) a 4 y) a 6 q') p a k n b x y g q' := by
  have hk := h.hk hX
  refine vnw_of hX hp h (CX.uI (CX.uR (CX.uR (vset_ok f a k n b g q hk) (fun _ => ?_)) (fun _ => ?_)) (fun _ => ?_)) rfl rfl (fun _ => rfl) (fun _ => rfl) (fun u v hu => ?_) ?_
  · show (ky a (kl f a), 3) ∈ vaY; rw [hk]; decide
  · show (ky a (kl f a), 4) ∈ vaY; rw [hk]; decide
  · show (ky a (kl f a), 6) ∈ vaY; rw [hk]; decide
  · unfold vset
    simp only [fI_uI, fI_uR, fR_uI, fR_uR, hu, and_false, if_false]
    exact ⟨trivial, trivial⟩
  · unfold vset
    simp only [fI_uI, fI_uR, fR_uI, fR_uR, and_true]
    simp
theorem vnw_1 {x y : Nat} (hX : FIX c) (hp : p = 177 ∨ p = 180) (h : VTK c f p a) : VNW c (uR (uR (vset f a k n b g q) a 3 x) a 4 y) p a k n b x y g q := by
  have hk := h.hk hX
  refine vnw_of hX hp h (CX.uR (CX.uR (vset_ok f a k n b g q hk) (fun _ => ?_)) (fun _ => ?_)) rfl rfl (fun _ => rfl) (fun _ => rfl) (fun u v hu => ?_) ?_
  · show (ky a (kl f a), 3) ∈ vaY; rw [hk]; decide
  · show (ky a (kl f a), 4) ∈ vaY; rw [hk]; decide
  · unfold vset
    simp only [fI_uI, fI_uR, fR_uI, fR_uR, hu, and_false, if_false]
    exact ⟨trivial, trivial⟩
  · unfold vset
    simp only [fI_uI, fI_uR, fR_uI, fR_uR, and_true]
    simp
theorem vnw_3 {x : Nat} (hX : FIX c) (hp : p = 177 ∨ p = 180) (h : VTK c f p a) : VNW c (uR (vset f a k n b g q) a 3 x) p a k n b x 2 g q := by
  have hk := h.hk hX
  refine vnw_of hX hp h (CX.uR (vset_ok f a k n b g q hk) (fun _ => ?_)) rfl rfl (fun _ => rfl) (fun _ => rfl) (fun u v hu => ?_) ?_
  · show (ky a (kl f a), 3) ∈ vaY; rw [hk]; decide
  · unfold vset
    simp only [fI_uI, fI_uR, fR_uI, fR_uR, hu, and_false, if_false]
    exact ⟨trivial, trivial⟩
  · unfold vset
    simp only [fI_uI, fI_uR, fR_uI, fR_uR, and_true]
    simp
theorem plainv_c (hX : FIX c) (hp : p = 177 ∨ p = 180) (hP : PL2 c) (hu : fI c p 2 < 620) {F : Nat → SC → Prop} (hF : ∀ e a, VNW c e p a k n 2 2 2 2 (vfl k) → F a e) : ck iv L h0 (d + 2) 196 [vr p, vi k, vi n] c (qa F) :=
  C196 ⟨(hX.pl hp).1, made_c hX hp hP hu (fun _ _ h => hF _ _ (vnw_0 hX hp h))⟩
theorem seeing_c (hX : FIX c) (hp : p = 177 ∨ p = 180) (hP : PL2 c) (hu : fI c p 2 < 620) {F : Nat → SC → Prop} (hF : ∀ e a, VNW c e p a k 0 b 2 2 g (vfl k) → F a e) : ck iv L h0 (d + 2) 197 [vr p, vi k, vr b, vr g] c (qa F) :=
  C197 ⟨(hX.pl hp).1, made_c hX hp hP hu (fun _ _ h => hF _ _ (vnw_0 hX hp h))⟩
theorem couple_c (hX : FIX c) (hp : p = 177 ∨ p = 180) (hP : PL2 c) (hu : fI c p 2 < 620) (hx : YNG c p x ∧ kl c x = 10) (hy : YNG c p y ∧ kl c y = 10) {F : Nat → SC → Prop} (hF : ∀ e a, VNW c e p a 3 0 2 x y 2 (if fI c x 6 ≠ 0 ∨ fI c y 6 ≠ 0 then 1 else 0) → F a e) : ck iv L h0 (d + 2) 198 [vr p, vr x, vr y] c (qa F) := by
  refine C198 ⟨(hX.pl hp).1, made_c hX hp hP hu (fun f a h => ?_)⟩
  obtain ⟨-, ⟨⟨-, s2⟩, -⟩, -, -, -⟩ := vnw_0 (k := 3) (n := 0) (b := 2) (g := 2) (q := vfl 3) hX hp h
  have hk := h.2.1.2.2
  have hx' := (s2 x hx.1).2 (Or.inl hx.2)
  have hy' := (s2 y hy.1).2 (Or.inl hy.2)
  refine ⟨hk, hx'.1.trans hx.2, ?_⟩
  rw [(hx'.2 6 (by decide)).1]
  refine ⟨fun w => hF _ _ ?_, fun w => ⟨hy'.1.trans hy.2, ?_⟩⟩
  · rw [if_pos (Or.inl w)]; exact vnw_2 hX hp h
  · rw [(hy'.2 6 (by decide)).1]
    refine ⟨fun w2 => hF _ _ ?_, fun w2 => hF _ _ ?_⟩
    · rw [if_neg (by omega)]; exact vnw_2 hX hp h
    · rw [if_pos (Or.inr w2)]; exact vnw_2 hX hp h
theorem framed_c (hX : FIX c) (hp : p = 177 ∨ p = 180) (hP : PL2 c) (hu : fI c p 2 < 620) {F : Nat → SC → Prop} (hF : ∀ e a, VNW c e p a 6 0 2 x 2 2 1 → F a e) : ck iv L h0 (d + 2) 199 [vr p, vr x] c (qa F) :=
  C199 ⟨(hX.pl hp).1, made_c hX hp hP hu (fun _ _ h => ⟨h.2.1.2.2, hF _ _ (vnw_3 hX hp h)⟩)⟩
theorem acted_c (hX : FIX c) (hp : p = 177 ∨ p = 180) (hP : PL2 c) (hu : fI c p 2 < 620) {F : Nat → SC → Prop} (hF : ∀ e a, VNW c e p a 7 0 b x y g 1 → F a e) : ck iv L h0 (d + 2) 200 [vr p, vr b, vr x, vr y, vr g] c (qa F) :=
  C200 ⟨(hX.pl hp).1, made_c hX hp hP hu (fun _ _ h => ⟨h.2.1.2.2, hF _ _ (vnw_1 hX hp h)⟩)⟩
end
