/-! The worker of the desk: where it starts, where it ends (C230, C231, C227, C228). -/
def stY : List (Nat × Nat) := [(6, 2), (6, 3), (11, 0), (11, 1), (11, 2), (11, 3), (11, 4), (11, 5)]
def wzY : List (Nat × Nat) := (11, 0) :: (11, 1) :: (11, 2) :: (11, 6) :: wkY
/-- the pools: the one in use, the other -/
def PLP (c : SC) (p q : Nat) : Prop := ((p = 177 ∧ q = 180) ∨ (p = 180 ∧ q = 177)) ∧ fR c 176 0 = p ∧ fR c 176 1 = q ∧ PL2 c
/-- behind a working -/
def WZP (A : Int → Nat) (c e : SC) (p q : Nat) (R : RS) (r : Nat) : Prop := (CX wzY wkR c e ∧ RMP c e) ∧ PLP e q p ∧ (fI e 176 3 = R.1 ∧ fI e 176 5 = R.2.2.1 ∧ fR e 176 6 = r ∧ fI e 176 4 = outE R) ∧ (R.2.1 = 0 → (r ≠ 2 ∧ kl e r = 10) ∧ DV A e (YNG e q) R.2.2.2 r []) ∧ (R.2.1 ≠ 0 → r = 2)
theorem DV_nul {A : Int → Nat} {c : SC} {P : Nat → Prop} : ∀ n : Nat, DV A c P (nulE n) 2 [] := by
  intro n
  induction n with
  | zero => exact trivial
  | succ n ih => exact ⟨ih, ⟨fun _ => rfl, fun _ => rfl⟩, fun w => absurd rfl w⟩
section
variable {iv : List (Int × Int)} {L : Nat} {h0 : MH} {A A' : Int → Nat} {P : Nat → Prop} {c c0 e f : SC} {σ s s' w : SM} {t : Term} {d p q a g x y r : Nat} {n b most st kv ks kv' ks' k0 k1 k : Int} {ys : List (Nat × Nat)} {rs : List Nat} {R : RS} {X Y E V : Term} {l : List (Int × Nat)}
theorem start_c {F : SC → Prop} (hX : FIX c) (hp : PLP c p q) (hF : ∀ e, CX stY [] c e → RMP c e → PL2 e → (fR e 176 0 = q ∧ fR e 176 1 = p ∧ fI e 176 2 = n ∧ fI e 176 3 = 0 ∧ fI e 176 4 = -1 ∧ fI e 176 5 = -9 ∧ fI e q 2 = 0 ∧ fI e q 3 = 0 ∧ fR e 176 6 = fR c 176 6) → STY (YNG c p) (LIV e q) c e → F e) : ck iv L h0 (d + 1) 230 [vr 176, vi n] c (qv F) := by
  obtain ⟨hpq, h1, h2, hP⟩ := hp
  obtain ⟨k1, k2, k3⟩ := hX.wk
  have h353 := hX.2.2.1
  have kq : kl c q = 6 := by rcases hpq with ⟨-, e⟩ | ⟨-, e⟩ <;> rw [e] <;> assumption
  have q176 : q ≠ 176 := by omega
  refine C230 ⟨k1, ?_⟩
  rw [fR_uR, if_pos ⟨rfl, rfl⟩, h1, h2]
  refine ⟨kq, C194 ⟨kq, k1, ?_⟩⟩
  generalize he : uI (uI (uI (uI (uI (uI (uR (uR c 176 0 q) 176 1 p) q 2 0) q 3 0) 176 2 n) 176 3 0) 176 4 (-1)) 176 5 (-9) = e
  have eI : ∀ u y, fI e u y = if y = 5 ∧ u = 176 then -9 else if y = 4 ∧ u = 176 then -1 else if y = 3 ∧ u = 176 then 0 else if y = 2 ∧ u = 176 then n else if y = 3 ∧ u = q then 0 else if y = 2 ∧ u = q then 0 else fI c u y := fun u y => by
    rw [← he]; simp only [fI_uI, fI_uR]
  have eR : ∀ u y, fR e u y = if y = 1 ∧ u = 176 then p else if y = 0 ∧ u = 176 then q else fR c u y := fun u y => by
    rw [← he]; simp only [fR_uI, fR_uR]
  have eK : ∀ u, kl e u = kl c u := fun u => by rw [← he]; rfl
  have eA : ∀ u, aR e u = aR c u := fun u => by rw [← he]; rfl
  have eN : nxt e = nxt c := by rw [← he]; rfl
  have eS : slo e = slo c := by rw [← he]; rfl
  have k176 : ky 176 11 = 11 := rfl
  have kyq : ky q 6 = 6 := by unfold ky; rw [if_neg (by omega)]
  have hx : CX stY [] c e := by
    rw [← he]
    refine CX.uI (CX.uI (CX.uI (CX.uI (CX.uI (CX.uI (CX.uR (CX.uR CX.rf (fun _ => ?_)) (fun _ => ?_)) (fun _ => ?_)) (fun _ => ?_)) (fun _ => ?_)) (fun _ => ?_)) (fun _ => ?_)) (fun _ => ?_)
    all_goals simp only [kl_uI, kl_uR, k1, kq, k176, kyq]; decide
  clear he
  refine hF e hx ⟨⟨?_, ?_⟩, by omega, fun a _ => eK a, fun a a1 a2 => by omega⟩ ?_ ⟨?_, ?_, ?_, ?_, ?_, ?_, ?_, ?_, ?_⟩ (fun u hu => ⟨⟨⟨hu.1.1.1, by rw [eN]; exact hu.1.1.2⟩, ?_, ?_⟩, fun hk => ⟨eK u, fun y _ => ⟨?_, ?_⟩⟩⟩)
  · unfold PHI; rw [eA, eA, eA, eA, eN]; exact Nat.le_refl _
  · unfold PHI; rw [eA, eA, eA, eA, eS]; exact Nat.le_refl _
  · obtain ⟨q1, q2, q3⟩ := hP
    refine ⟨fun z hz => ?_, fun r z i j hr hz i0 i1 j0 j1 he hn => ?_, fun r z i j hr hz i0 i1 j0 j1 he hn => ?_⟩
    · obtain ⟨⟨⟨c1, c2⟩, c3, c4⟩, c5, c6⟩ := q1 z hz
      refine ⟨?_, fun i i0 i1 => ?_, fun i i0 i1 => ?_⟩
      · rw [eI, eI]
        by_cases hzq : z = q
        · subst hzq
          simp [q176]
        · have z176 : z ≠ 176 := by omega
          simp [hzq, z176]
          omega
      · rw [eA, eK, eN]; exact c5 i i0 i1
      · rw [eA, eK, eN]; exact c6 i i0 i1
    · rw [eA] at he hn; rw [eA] at he
      exact q2 r z i j hr hz i0 i1 j0 j1 he hn
    · rw [eA] at he hn; rw [eA] at he
      exact q3 r z i j hr hz i0 i1 j0 j1 he hn
  · rw [eR]; simp
  · rw [eR]; simp
  · rw [eI]; simp
  · rw [eI]; simp
  · rw [eI]; simp
  · rw [eI]; simp
  · rw [eI]; simp [q176]
  · rw [eI]; simp [q176]
  · rw [eR]; simp
  · intro i i0 i1
    rw [eA]
    have : (0 : Int) ≤ i := by rw [eI] at i0; simpa [q176] using i0
    exact (hu.2 q (by omega) (by omega)).1 i this i1
  · intro i i0 i1
    rw [eA]
    have : (0 : Int) ≤ i := by rw [eI] at i0; simpa [q176] using i0
    exact (hu.2 q (by omega) (by omega)).2 i this i1
  · have u1 : u ≠ 176 := by have := hu.1.1.1; omega
    have u2 : u ≠ q := by have := hu.1.1.1; omega
    rw [eI]; simp [u1, u2]
  · have u1 : u ≠ 176 := by have := hu.1.1.1; omega
    rw [eR]; simp [u1]
/-- the result is noted -/
theorem end_c {F : Int → SC → Prop} (hX : FIX c) (hp : PLP c q p) (hR : (R.2.1 = 0 → isV R.2.2.2 = true) ∧ (R.2.1 = 0 ∨ 2 ≤ R.2.1)) (h3 : fI c 176 3 = R.1) (h4 : fI c 176 4 = if R.2.1 = 0 then -1 else R.2.1) (h5 : fI c 176 5 = R.2.2.1) (hv : R.2.1 = 0 → DV A c (YNG c q) R.2.2.2 r []) (hs : R.2.1 ≠ 0 → r = 2) (hF : ∀ e, WZP A c e p q R r → F (outE R) e) : ck iv L h0 d 231 [vr 176, vr r] c (qi F) := by
  obtain ⟨hpq, h1, h2, hP⟩ := hp
  obtain ⟨k1, k2, k3⟩ := hX.wk
  have h353 := hX.2.2.1
  have k176 : ky 176 11 = 11 := rfl
  have q176 : q ≠ 176 := by omega
  refine C231 ⟨k1, fun z => ?_, fun z => ?_⟩
  · subst z
    have g0 : R.2.1 ≠ 0 := fun g => DV_ne (hR.1 g) (hv g) rfl
    rw [if_neg g0] at h4
    have hx : CX wzY wkR c (uR c 176 6 2) := CX.uR CX.rf (fun _ => by rw [k1, k176]; decide)
    have := hF (uR c 176 6 2) ⟨⟨hx, RMP.rf⟩, ⟨hpq, by rw [fR_uR, if_neg (by omega)]; exact h1, by rw [fR_uR, if_neg (by omega)]; exact h2, PL2_eq hP rfl (fun _ _ _ => rfl) (fun _ => rfl) (fun _ => rfl)⟩, ⟨h3, h5, by rw [fR_uR, if_pos ⟨rfl, rfl⟩], by unfold outE; rw [if_neg g0]; exact h4⟩, fun g => absurd g g0, fun _ => rfl⟩
    unfold outE at this
    rw [if_neg g0] at this
    rw [h4]
    exact this
  · have g0 : R.2.1 = 0 := Classical.byContradiction fun g => z (hs g)
    have hvv := hv g0
    obtain ⟨⟨d1, d2⟩, d3, d4⟩ := DV_kind (hR.1 g0) hvv
    have r176 : r ≠ 176 := by have := d1.1.1.1; omega
    have key : ∀ z : Int, outE R = z → WZP A c (uI (uR c 176 6 r) 176 4 z) p q R r := fun z hz => by
      have hx : CX wzY wkR c (uI (uR c 176 6 r) 176 4 z) := CX.uI (CX.uR CX.rf (fun _ => by rw [k1, k176]; decide)) (fun _ => by rw [kl_uR, k1, k176]; decide)
      have eL : ∀ u, LIV c q u → LIV (uI (uR c 176 6 r) 176 4 z) q u := LIV_eq rfl (fun v => by rw [fI_uI, if_neg (fun w => q176 w.2)]; rfl) (fun _ => rfl)
      have eY := yng_up eL (fun z i hz hn => ⟨rfl, rfl⟩)
      have hst : STY (YNG c q) (YNG (uI (uR c 176 6 r) 176 4 z) q) c (uI (uR c 176 6 r) 176 4 z) := fun u hu => ⟨eY u hu, fun _ => ⟨rfl, fun y _ => ⟨by rw [fI_uI, if_neg (fun w => by have := hu.1.1.1; omega)]; rfl, by rw [fR_uI, fR_uR, if_neg (fun w => by have := hu.1.1.1; omega)]⟩⟩⟩
      refine ⟨⟨hx, RMP.rf⟩, ⟨hpq, ?_, ?_, PL2_eq hP rfl (fun z y hz => ?_) (fun _ => rfl) (fun _ => rfl)⟩, ⟨?_, ?_, ?_, ?_⟩, fun _ => ⟨⟨by have := d1.1.1.1; omega, d2⟩, DV_up hst _ _ r [] (Nat.lt_succ_self _) hvv⟩, fun g => absurd g0 g⟩
      · rw [fR_uI, fR_uR, if_neg (by omega)]; exact h1
      · rw [fR_uI, fR_uR, if_neg (by omega)]; exact h2
      · rw [fI_uI, if_neg (by omega)]; rfl
      · rw [fI_uI, if_neg (by omega)]; exact h3
      · rw [fI_uI, if_neg (by omega)]; exact h5
      · rw [fR_uI, fR_uR, if_pos ⟨rfl, rfl⟩]
      · rw [fI_uI, if_pos ⟨rfl, rfl⟩]; exact hz.symm
    refine ⟨d2, fun w => ?_, fun w => ?_⟩
    · rw [d4] at w
      have hl : hsL R.2.2.2 = false := bool_if.1 w
      have ho : outE R = 0 := by unfold outE; rw [if_pos g0, if_neg (by rw [hl]; decide)]
      have := hF _ (key 0 ho)
      rw [ho] at this
      rw [fI_uI, if_pos ⟨rfl, rfl⟩]
      exact this
    · rw [d4] at w
      have hl : hsL R.2.2.2 = true := bool_if.2 w
      have ho : outE R = 1 := by unfold outE; rw [if_pos g0, if_pos hl]
      have := hF _ (key 1 ho)
      rw [ho] at this
      rw [fI_uI, if_pos ⟨rfl, rfl⟩]
      exact this
end
