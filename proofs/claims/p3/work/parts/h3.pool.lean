/-! The pools of the desk: cells for values, taken anew. -/
def PLs (c : SC) (p : Nat) : Prop := ((0 ≤ fI c p 2 ∧ fI c p 2 ≤ 620) ∧ 0 ≤ fI c p 3 ∧ fI c p 3 ≤ 320) ∧ (∀ i, 0 ≤ i → i < 620 → aR c (p + 1) i = 2 ∨ (353 ≤ aR c (p + 1) i ∧ aR c (p + 1) i < nxt c ∧ kl c (aR c (p + 1) i) = 10)) ∧ ∀ i, 0 ≤ i → i < 320 → aR c (p + 2) i = 2 ∨ (353 ≤ aR c (p + 2) i ∧ aR c (p + 2) i < nxt c ∧ kl c (aR c (p + 2) i) = 7)
def IJ (c : SC) (r : Nat) (n : Int) : Prop := ∀ p q i j, (p = 177 ∨ p = 180) → (q = 177 ∨ q = 180) → 0 ≤ i → i < n → 0 ≤ j → j < n → aR c (p + r) i = aR c (q + r) j → aR c (p + r) i ≠ 2 → p = q ∧ i = j
def PL2 (c : SC) : Prop := (∀ q, (q = 177 ∨ q = 180) → PLs c q) ∧ IJ c 1 620 ∧ IJ c 2 320
/-- not to be taken again -/
def LIV (c : SC) (p : Nat) (a : Nat) : Prop := (353 ≤ a ∧ a < nxt c) ∧ (∀ i, fI c p 2 ≤ i → i < 620 → aR c (p + 1) i ≠ a) ∧ ∀ i, fI c p 3 ≤ i → i < 320 → aR c (p + 2) i ≠ a
/-- in neither row of that pool -/
def NIP (c : SC) (q : Nat) (x : Nat) : Prop := (∀ i, 0 ≤ i → i < 620 → aR c (q + 1) i ≠ x) ∧ ∀ i, 0 ≤ i → i < 320 → aR c (q + 2) i ≠ x
/-- .. and not of the other pool: what the other pool will not take again when they change places -/
def YNG (c : SC) (p : Nat) (x : Nat) : Prop := LIV c p x ∧ ∀ q, (q = 177 ∨ q = 180) → q ≠ p → NIP c q x
theorem yng_up {c f : SC} {p : Nat} (hL : ∀ x, LIV c p x → LIV f p x) (hr : ∀ q i, (q = 177 ∨ q = 180) → q ≠ p → aR f (q + 1) i = aR c (q + 1) i ∧ aR f (q + 2) i = aR c (q + 2) i) : ∀ x, YNG c p x → YNG f p x := fun x h => ⟨hL x h.1, fun q hq hn => ⟨fun i i0 i1 => by rw [(hr q i hq hn).1]; exact (h.2 q hq hn).1 i i0 i1, fun i i0 i1 => by rw [(hr q i hq hn).2]; exact (h.2 q hq hn).2 i i0 i1⟩⟩
/-- how many places of a row are still empty -/
def cnz (f : Int → Nat) : Nat → Nat
  | 0 => 0
  | n + 1 => cnz f n + (if f n = 2 then 1 else 0)
theorem cnz_eq {f g : Int → Nat} : ∀ (n : Nat), (∀ i, 0 ≤ i → i < (n : Int) → g i = f i) → cnz g n = cnz f n := by
  intro n
  induction n with
  | zero => intro _; rfl
  | succ n ih =>
    intro h
    show cnz g n + (if g n = 2 then 1 else 0) = cnz f n + (if f n = 2 then 1 else 0)
    rw [ih (fun i i0 i1 => h i i0 (by omega)), h n (by omega) (by omega)]
theorem cnz_up {f g : Int → Nat} {u : Int} {x : Nat} (h0 : f u = 2) (hx : x ≠ 2) (hg : ∀ i, g i = if i = u then x else f i) : ∀ (n : Nat), 0 ≤ u → u < (n : Int) → cnz g n + 1 = cnz f n := by
  intro n
  induction n with
  | zero => intro h1 h2; omega
  | succ n ih =>
    intro h1 h2
    show cnz g n + (if g n = 2 then 1 else 0) + 1 = cnz f n + (if f n = 2 then 1 else 0)
    by_cases e : u = n
    · rw [← e, h0, hg u, if_pos rfl, if_neg hx, if_pos rfl, cnz_eq n (fun i _ i1 => by rw [hg, if_neg (by omega)])]
    · have e1 : g n = f n := by rw [hg, if_neg (fun w => e w.symm)]
      have := ih h1 (by omega)
      rw [e1]
      omega
/-- .. of all rows of both pools -/
def PHI (c : SC) : Nat := cnz (aR c 178) 620 + cnz (aR c 181) 620 + cnz (aR c 179) 320 + cnz (aR c 182) 320
/-- room is taken where a place was empty -/
def RMP (c e : SC) : Prop := (nxt e + PHI e ≤ nxt c + PHI c ∧ slo e + 7 * PHI e ≤ slo c + 7 * PHI c) ∧ nxt c ≤ nxt e ∧ (∀ a, a < nxt c → kl e a = kl c a) ∧ ∀ a, nxt c ≤ a → a < nxt e → kl e a ≠ 5
theorem RMP.rf {c : SC} : RMP c c := ⟨⟨Nat.le_refl _, Nat.le_refl _⟩, Nat.le_refl _, fun _ _ => rfl, fun a h1 h2 => absurd h1 (by omega)⟩
theorem RMP.tr {c e f : SC} (h1 : RMP c e) (h2 : RMP e f) : RMP c f := ⟨⟨Nat.le_trans h2.1.1 h1.1.1, Nat.le_trans h2.1.2 h1.1.2⟩, Nat.le_trans h1.2.1 h2.2.1, fun a ha => (h2.2.2.1 a (Nat.lt_of_lt_of_le ha h1.2.1)).trans (h1.2.2.1 a ha), fun a a1 a2 => by
  by_cases q : a < nxt e
  · rw [h2.2.2.1 a q]; exact h1.2.2.2 a a1 q
  · exact h2.2.2.2 a (by omega) a2⟩
/-- a value's cell was taken -/
def VTK (c f : SC) (p a : Nat) : Prop := (CX [(6, 2)] [p + 1] c f ∧ RMP c f ∧ fI f p 2 = fI c p 2 + 1 ∧ fI f p 3 = fI c p 3) ∧ (353 ≤ a ∧ a < nxt f ∧ kl f a = 10) ∧ (¬ LIV c p a ∧ YNG f p a ∧ (∀ x, LIV c p x → LIV f p x) ∧ ∀ x, YNG c p x → YNG f p x) ∧ PL2 f
section
variable {iv : List (Int × Int)} {L : Nat} {h0 : MH} {A A' : Int → Nat} {P : Nat → Prop} {c c0 e f : SC} {s s' w : SM} {t : Term} {d p : Nat} {ys : List (Nat × Nat)} {rs : List Nat}
theorem FIX.pl (h : FIX c) (hp : p = 177 ∨ p = 180) : kl c p = 6 ∧ fR c p 0 = p + 1 ∧ fR c p 1 = p + 2 ∧ kl c (p + 1) = 106 ∧ le c (p + 1) = 620 ∧ kl c (p + 2) = 107 ∧ le c (p + 2) = 320 := by
  rcases hp with rfl | rfl
  · simp only [h.1]; exact ⟨trivial, trivial, trivial, trivial, trivial, trivial, trivial⟩
  · simp only [h.1]; exact ⟨trivial, trivial, trivial, trivial, trivial, trivial, trivial⟩
def vini (c : SC) : SC := uI (uR (uR (uR (uR (uI (uI (nO c 9) (nxt c) 0 0) (nxt c) 1 0) (nxt c) 2 2) (nxt c) 3 2) (nxt c) 4 2) (nxt c) 5 2) (nxt c) 6 0
theorem vini_ok (h3 : 353 ≤ nxt c) : CX [] [] c (vini c) ∧ nxt (vini c) = nxt c + 1 ∧ slo (vini c) = slo c + 7 ∧ kl (vini c) (nxt c) = 10 ∧ (∀ a, aR (vini c) a = aR c a) ∧ ∀ a y, a < nxt c → fI (vini c) a y = fI c a y ∧ kl (vini c) a = kl c a := by
  unfold vini
  refine ⟨?_, rfl, rfl, ?_, fun a => rfl, fun a y ha => ⟨?_, ?_⟩⟩
  · have hI : ∀ {e : SC} {y : Nat} {z : Int}, CX [] [] c e → CX [] [] c (uI e (nxt c) y z) := fun h => h.uI (fun q => absurd q (Nat.lt_irrefl _))
    have hR : ∀ {e : SC} {y z : Nat}, CX [] [] c e → CX [] [] c (uR e (nxt c) y z) := fun h => h.uR (fun q => absurd q (Nat.lt_irrefl _))
    exact hI (hR (hR (hR (hR (hI (hI CX.rf.nO))))))
  · simp only [kl_uI, kl_uR, kl_nO]; rw [if_pos trivial]
  · simp only [fI_uI, fI_uR, fI_nO]
    have : ¬ (a = nxt c) := by omega
    simp [this]
  · simp only [kl_uI, kl_uR, kl_nO]
    rw [if_neg (by omega)]
/-- one cell more in use -/
theorem vtk_1 (hX : FIX c) (hp : p = 177 ∨ p = 180) (hP : PL2 c) (hu : fI c p 2 < 620) (ha : aR c (p + 1) (fI c p 2) ≠ 2) : VTK c (uI c p 2 (fI c p 2 + 1)) p (aR c (p + 1) (fI c p 2)) := by
  obtain ⟨k1, k2, k3, k4, k5, k6, k7⟩ := hX.pl hp
  obtain ⟨q1, q2, q3⟩ := hP
  obtain ⟨⟨⟨a1, a2⟩, a3, a4⟩, a5, a6⟩ := q1 p hp
  obtain ⟨b1, b2, b3⟩ := (a5 _ a1 hu).resolve_left ha
  have h353 := hX.2.2.1
  have n3 : fI (uI c p 2 (fI c p 2 + 1)) p 3 = fI c p 3 := by rw [fI_uI, if_neg (by omega)]
  have n2 : fI (uI c p 2 (fI c p 2 + 1)) p 2 = fI c p 2 + 1 := by rw [fI_uI, if_pos ⟨rfl, rfl⟩]
  have hne7 : ∀ i, 0 ≤ i → i < 320 → aR c (p + 2) i ≠ aR c (p + 1) (fI c p 2) := fun i i0 i1 w => by
    rcases a6 i i0 i1 with z | ⟨-, -, z⟩
    · exact ha (w ▸ z)
    · rw [w, b3] at z; omega
  have hLL : ∀ x, LIV c p x → LIV (uI c p 2 (fI c p 2 + 1)) p x := fun x hx => ⟨hx.1, fun i i0 i1 => hx.2.1 i (by rw [n2] at i0; omega) i1, fun i i0 i1 => hx.2.2 i (by rw [n3] at i0; exact i0) i1⟩
  refine ⟨⟨CX.rf.uI (fun _ => by unfold ky; rw [if_neg (by omega), k1]; decide), RMP.rf, n2, n3⟩, ⟨b1, b2, b3⟩, ⟨fun w => w.2.1 _ (Int.le_refl _) hu rfl, ⟨⟨⟨b1, b2⟩, fun i i0 i1 w => ?_, fun i i0 i1 w => ?_⟩, fun q hq hn => ⟨fun i i0 i1 w => hn (q2 q p i _ hq hp i0 i1 a1 hu w (by rw [show aR c (q + 1) i = aR c (p + 1) (fI c p 2) from w]; exact ha)).1, fun i i0 i1 w => ?_⟩⟩, hLL, yng_up hLL (fun q i hq hn => ⟨rfl, rfl⟩)⟩, ⟨fun q hq => ?_, q2, q3⟩⟩
  · rw [n2] at i0
    have w : aR c (p + 1) i = aR c (p + 1) (fI c p 2) := w
    have := (q2 p p i (fI c p 2) hp hp (by omega) i1 a1 hu w (by rw [w]; exact ha)).2
    omega
  · rw [n3] at i0
    exact hne7 i (by omega) i1 w
  · rcases (q1 q hq).2.2 i i0 i1 with z | ⟨-, -, z⟩
    · exact ha ((show aR c (q + 2) i = aR c (p + 1) (fI c p 2) from w) ▸ z)
    · rw [show aR c (q + 2) i = aR c (p + 1) (fI c p 2) from w, b3] at z; omega
  · obtain ⟨⟨⟨c1, c2⟩, c3, c4⟩, c5, c6⟩ := q1 q hq
    refine ⟨?_, c5, c6⟩
    by_cases w : q = p
    · subst w
      rw [n2, n3]
      exact ⟨⟨by omega, by omega⟩, a3, a4⟩
    · rw [fI_uI, if_neg (fun z => w z.2), fI_uI, if_neg (fun z => w z.2)]
      exact ⟨⟨c1, c2⟩, c3, c4⟩
/-- a cell made, kept in the pool -/
theorem vtk_2 (hX : FIX c) (hp : p = 177 ∨ p = 180) (hP : PL2 c) (hu : fI c p 2 < 620) (ha : aR c (p + 1) (fI c p 2) = 2) : VTK c (uI (uB (vini c) (p + 1) (fI c p 2) (nxt c)) p 2 (fI c p 2 + 1)) p (nxt c) := by
  obtain ⟨k1, k2, k3, k4, k5, k6, k7⟩ := hX.pl hp
  obtain ⟨q1, q2, q3⟩ := hP
  have hPp := q1 p hp
  obtain ⟨⟨⟨a1, a2⟩, a3, a4⟩, a5, a6⟩ := hPp
  have h353 := hX.2.2.1
  obtain ⟨v1, v2, v3, v4, v5, v6⟩ := vini_ok h353
  generalize hg : vini c = g at v1 v2 v3 v4 v5 v6
  generalize hu' : fI c p 2 = u at *
  have gx : CX [(6, 2)] [p + 1] c (uI (uB g (p + 1) u (nxt c)) p 2 (u + 1)) := by
    refine CX.uI (CX.uB (v1.up (fun _ w => by cases w) (fun _ w => by cases w)) (fun _ => ?_)) (fun _ => ?_)
    · unfold rk; rw [if_pos (by omega)]; exact List.mem_singleton.mpr rfl
    · rw [kl_uB, (v6 p 0 (by omega)).2, k1]; unfold ky; rw [if_neg (by omega)]; decide
  have eI : ∀ a y, a < nxt c → fI (uI (uB g (p + 1) u (nxt c)) p 2 (u + 1)) a y = if y = 2 ∧ a = p then u + 1 else fI c a y := fun a y h => by rw [fI_uI, fI_uB, (v6 a y h).1]
  have eB : ∀ a i, aR (uI (uB g (p + 1) u (nxt c)) p 2 (u + 1)) a i = if a = p + 1 ∧ i = u then nxt c else aR c a i := fun a i => by rw [aR_uI, aR_uB, v5]
  have eK : ∀ a, a < nxt c → kl (uI (uB g (p + 1) u (nxt c)) p 2 (u + 1)) a = kl c a := fun a h => by rw [kl_uI, kl_uB, (v6 a 0 h).2]
  have eN : nxt (uI (uB g (p + 1) u (nxt c)) p 2 (u + 1)) = nxt c + 1 := v2
  have eS : slo (uI (uB g (p + 1) u (nxt c)) p 2 (u + 1)) = slo c + 7 := v3
  have e10 : kl (uI (uB g (p + 1) u (nxt c)) p 2 (u + 1)) (nxt c) = 10 := v4
  generalize uI (uB g (p + 1) u (nxt c)) p 2 (u + 1) = f at gx eI eB eK eN eS e10
  have f2 : fI f p 2 = u + 1 := by rw [eI p 2 (by omega), if_pos ⟨rfl, rfl⟩]
  have f3 : fI f p 3 = fI c p 3 := by rw [eI p 3 (by omega), if_neg (by omega)]
  have rowlt : ∀ q i, (q = 177 ∨ q = 180) → 0 ≤ i → i < 620 → aR c (q + 1) i < nxt c := fun q i hq i0 i1 => by
    rcases (q1 q hq).2.1 i i0 i1 with z | z <;> omega
  have rowlt2 : ∀ q i, (q = 177 ∨ q = 180) → 0 ≤ i → i < 320 → aR c (q + 2) i < nxt c := fun q i hq i0 i1 => by
    rcases (q1 q hq).2.2 i i0 i1 with z | z <;> omega
  have s2 : ∀ q i, (q = 177 ∨ q = 180) → aR f (q + 2) i = aR c (q + 2) i := fun q i hq => by rw [eB, if_neg (by omega)]
  have s1 : ∀ q i, (q = 177 ∨ q = 180) → ¬ (q = p ∧ i = u) → aR f (q + 1) i = aR c (q + 1) i := fun q i hq h => by rw [eB, if_neg (by omega)]
  have s0 : aR f (p + 1) u = nxt c := by rw [eB, if_pos ⟨rfl, rfl⟩]
  have hphi : PHI f + 1 = PHI c := by
    have hd : ∀ q, q ≠ p + 1 → aR f q = aR c q := fun q hq => by funext i; rw [eB, if_neg (fun z => hq z.1)]
    have hup : cnz (aR f (p + 1)) 620 + 1 = cnz (aR c (p + 1)) 620 := cnz_up (x := nxt c) ha (by omega) (fun i => by rw [eB]; simp) 620 a1 hu
    unfold PHI
    rcases hp with rfl | rfl
    · rw [hd 181 (by decide), hd 179 (by decide), hd 182 (by decide)]
      have hup : cnz (aR f 178) 620 + 1 = cnz (aR c 178) 620 := hup
      omega
    · rw [hd 178 (by decide), hd 179 (by decide), hd 182 (by decide)]
      have hup : cnz (aR f 181) 620 + 1 = cnz (aR c 181) 620 := hup
      omega
  have hLL : ∀ x, LIV c p x → LIV f p x := fun x hx => by
    refine ⟨⟨hx.1.1, by have := hx.1.2; omega⟩, fun i i0 i1 => ?_, fun i i0 i1 => ?_⟩
    · rw [f2] at i0
      rw [s1 p i hp (by omega)]
      exact hx.2.1 i (by omega) i1
    · rw [f3] at i0
      rw [s2 p i hp]
      exact hx.2.2 i i0 i1
  refine ⟨⟨gx, ⟨⟨by omega, by omega⟩, by omega, fun a ha => eK a ha, fun a a1 a2 => by rw [show a = nxt c by omega, e10]; decide⟩, by rw [hu']; exact f2, f3⟩, ⟨by omega, by omega, e10⟩, ⟨fun w => by have := w.1.2; omega, ⟨⟨⟨by omega, by omega⟩, fun i i0 i1 w => ?_, fun i i0 i1 w => ?_⟩, fun q hq hn => ⟨fun i i0 i1 w => ?_, fun i i0 i1 w => ?_⟩⟩, hLL, yng_up hLL (fun q i hq hn => ⟨s1 q i hq (fun z => hn z.1), s2 q i hq⟩)⟩, ⟨fun q hq => ?_, fun r q i j hr hq i0 i1 j0 j1 he hn => ?_, fun r q i j hr hq i0 i1 j0 j1 he hn => ?_⟩⟩
  · rw [f2] at i0
    rw [s1 p i hp (by omega)] at w
    have := rowlt p i hp (by omega) i1
    omega
  · rw [f3] at i0
    rw [s2 p i hp] at w
    have := rowlt2 p i hp (by omega) i1
    omega
  · rw [s1 q i hq (fun z => hn z.1)] at w
    have := rowlt q i hq i0 i1
    omega
  · rw [s2 q i hq] at w
    have := rowlt2 q i hq i0 i1
    omega
  · obtain ⟨⟨⟨c1, c2⟩, c3, c4⟩, c5, c6⟩ := q1 q hq
    refine ⟨?_, fun i i0 i1 => ?_, fun i i0 i1 => ?_⟩
    · rw [eI q 2 (by omega), eI q 3 (by omega), if_neg (show ¬ (3 = 2 ∧ q = p) by omega)]
      by_cases w : q = p
      · rw [if_pos ⟨rfl, w⟩]; exact ⟨⟨by omega, by omega⟩, c3, c4⟩
      · rw [if_neg (fun z => w z.2)]; exact ⟨⟨c1, c2⟩, c3, c4⟩
    · by_cases w : q = p ∧ i = u
      · rw [w.1, w.2, s0]; exact Or.inr ⟨by omega, by omega, e10⟩
      · rw [s1 q i hq w]
        refine (c5 i i0 i1).imp id (fun z => ⟨z.1, by omega, ?_⟩)
        rw [eK _ z.2.1]; exact z.2.2
    · rw [s2 q i hq]
      refine (c6 i i0 i1).imp id (fun z => ⟨z.1, by omega, ?_⟩)
      rw [eK _ z.2.1]; exact z.2.2
  · by_cases w : r = p ∧ i = u
    · by_cases w' : q = p ∧ j = u
      · exact ⟨w.1.trans w'.1.symm, w.2.trans w'.2.symm⟩
      · rw [w.1, w.2, s0, s1 q j hq w'] at he
        have := rowlt q j hq j0 j1
        omega
    · by_cases w' : q = p ∧ j = u
      · rw [w'.1, w'.2, s0, s1 r i hr w] at he
        have := rowlt r i hr i0 i1
        omega
      · rw [s1 r i hr w] at he hn
        rw [s1 q j hq w'] at he
        exact q2 r q i j hr hq i0 i1 j0 j1 he hn
  · rw [s2 r i hr] at he hn
    rw [s2 q j hq] at he
    exact q3 r q i j hr hq i0 i1 j0 j1 he hn
end
