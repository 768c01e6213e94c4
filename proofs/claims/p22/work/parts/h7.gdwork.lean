section
/-! Working by the desk: what stays, what comes. -/
def wkY : List (Nat × Nat) := [(6, 2), (6, 3), (7, 0), (7, 1), (7, 2), (10, 0), (10, 1), (10, 2), (10, 3), (10, 4), (10, 5), (10, 6), (11, 3), (11, 4), (11, 5)]
def wkR : List Nat := [178, 179, 181, 182]
/-- the ground of a working -/
def DWX (A : Int → Nat) (c0 : SC) (σ : SM) (t : Term) (p : Nat) : Prop := (R1 A c0 σ t ∧ SHT σ t ∧ NB σ ∧ RSN σ t) ∧ (p = 177 ∨ p = 180) ∧ ∀ b, b ∈ fl t → σ.2 21 b = (jdg σ t).2.2 b ∧ (σ.2 21 b = 1 → σ.2 9 b = 3)
/-- in the midst of it -/
def DWS (c0 : SC) (p : Nat) (most st kv ks : Int) (c : SC) : Prop := CX wkY wkR c0 c ∧ PL2 c ∧ (fR c 176 0 = p ∧ fI c 176 2 = most ∧ fI c 176 3 = st ∧ fI c 176 4 = -1 ∧ fI c 176 5 = -9) ∧ (0 ≤ st ∧ st ≤ most ∧ most ≤ 300) ∧ fI c p 2 + 2 * (most - st) + kv ≤ 610 ∧ fI c p 3 + (most - st) + ks ≤ 310
/-- behind it -/
def DWP (A : Int → Nat) (p : Nat) (kv k0 k1 : Int) (c : SC) (st : Int) (R : RS) (a : Nat) (e : SC) : Prop := (CX wkY wkR c e ∧ RMP c e) ∧ ((STY (LIV c p) (LIV e p) c e ∧ STY (YNG c p) (YNG e p) c e) ∧ PL2 e) ∧ (fI e 176 3 = R.1 ∧ fI e 176 4 = (if R.2.1 = 0 then -1 else R.2.1) ∧ fI e 176 5 = R.2.2.1) ∧ (fI e p 2 ≤ fI c p 2 + 2 * (R.1 - st) + kv ∧ fI e p 3 ≤ fI c p 3 + (R.1 - st) + (if R.2.1 = 0 then k0 else k1)) ∧ (R.2.1 = 0 → DV A e (YNG e p) R.2.2.2 a []) ∧ (R.2.1 ≠ 0 → a = 2)
theorem STY.rf {P : Nat → Prop} {c : SC} : STY P P c c := fun _ h => ⟨h, fun _ => ⟨rfl, fun _ _ => ⟨rfl, rfl⟩⟩⟩
theorem STY.tr {P Q R : Nat → Prop} {c e f : SC} (h1 : STY P Q c e) (h2 : STY Q R e f) : STY P R c f := fun a ha => by
  obtain ⟨q1, q2⟩ := h1 a ha
  obtain ⟨r1, r2⟩ := h2 a q1
  refine ⟨r1, fun k => ?_⟩
  obtain ⟨k1, k2⟩ := q2 k
  obtain ⟨l1, l2⟩ := r2 (by rw [k1]; exact k)
  exact ⟨l1.trans k1, fun y hy => ⟨(l2 y hy).1.trans (k2 y hy).1, (l2 y hy).2.trans (k2 y hy).2⟩⟩
theorem DWP.up {A : Int → Nat} {p a : Nat} {kv k0 k1 kv' k0' k1' st : Int} {c e : SC} {R : RS} (h : DWP A p kv k0 k1 c st R a e) (h1 : kv ≤ kv') (h2 : k0 ≤ k0') (h3 : k1 ≤ k1') : DWP A p kv' k0' k1' c st R a e := by
  obtain ⟨a1, a2, a3, a4, a5, a6⟩ := h
  refine ⟨a1, a2, a3, ⟨by omega, ?_⟩, a5, a6⟩
  have := a4.2
  split at this <;> omega
theorem DWP.tr {A : Int → Nat} {p a b : Nat} {kv k0 k1 kv' k0' k1' st : Int} {c e f : SC} {R R' : RS} (h : DWP A p kv k0 k1 c st R a e) (hR : R.2.1 = 0) (h' : DWP A p kv' k0' k1' e R.1 R' b f) : DWP A p (kv + kv') (k0 + k0') (k0 + k1') c st R' b f := by
  obtain ⟨a1, a2, a3, a4, a5, a6⟩ := h
  obtain ⟨b1, b2, b3, b4, b5, b6⟩ := h'
  rw [if_pos hR] at a4
  refine ⟨⟨a1.1.tr b1.1, a1.2.tr b1.2⟩, ⟨⟨a2.1.1.tr b2.1.1, a2.1.2.tr b2.1.2⟩, b2.2⟩, b3, ⟨by omega, ?_⟩, b5, b6⟩
  have := b4.2
  split at this <;> omega
theorem DWS.up {c0 c : SC} {p : Nat} {most st kv ks kv' ks' : Int} (h : DWS c0 p most st kv ks c) (h1 : kv' ≤ kv) (h2 : ks' ≤ ks) : DWS c0 p most st kv' ks' c := by
  obtain ⟨a1, a2, a3, a4, a5, a6⟩ := h
  exact ⟨a1, a2, a3, a4, by omega, by omega⟩
theorem DWP.cx {A : Int → Nat} {p a : Nat} {kv k0 k1 st : Int} {c e : SC} {R : RS} (h : DWP A p kv k0 k1 c st R a e) : CX wkY wkR c e := h.1.1
section
variable {iv : List (Int × Int)} {L : Nat} {h0 : MH} {A A' : Int → Nat} {P : Nat → Prop} {c c0 e f : SC} {σ s s' w : SM} {t : Term} {d p a b g x y n : Nat} {most st kv ks kv' ks' k0 k1 k q : Int} {ys : List (Nat × Nat)} {rs : List Nat} {R : RS}
theorem DWX.fix (h : DWX A c0 σ t p) : FIX c0 := h.1.1.1.1
theorem DWX.fx (h : DWX A c0 σ t p) (hx : CX wkY wkR c0 c) : FIX c := h.fix.x hx (by decide) (by decide)
theorem FIX.wk (h : FIX c) : kl c 176 = 11 ∧ kl c 177 = 6 ∧ kl c 180 = 6 := by simp only [h.1]; exact ⟨trivial, trivial, trivial⟩
theorem DWX.wk (h : DWX A c0 σ t p) (hx : CX wkY wkR c0 c) : kl c 176 = 11 ∧ kl c p = 6 ∧ p < nxt c := by
  have hX := h.fx hx
  have := hX.2.2.1
  obtain ⟨q1, q2, q3⟩ := hX.wk
  refine ⟨q1, ?_, by have := h.2.1; omega⟩
  rcases h.2.1 with e | e <;> rw [e] <;> assumption
/-- a field of the worker that stays -/
theorem wk_i (hX : FIX c) (hx : CX wkY wkR c e) (hy : y = 0 ∨ y = 1 ∨ y = 2 ∨ y = 6) : fI e 176 y = fI c 176 y ∧ fR e 176 y = fR c 176 y := by
  have h353 := hX.2.2.1
  have hk : ky 176 (kl c 176) = 11 := by rw [hX.wk.1]; rfl
  have : (ky 176 (kl c 176), y) ∉ wkY := by rw [hk]; rcases hy with e | e | e | e <;> rw [e] <;> decide
  exact ⟨hx.i (by omega) this, hx.r (by omega) this⟩
theorem DWS.nx (hX : FIX c) (h : DWS c0 p most st kv ks c) (hw : DWP A p kv' k0 k1 c st R a e) (h1 : st ≤ R.1 ∧ R.1 ≤ most) (h2 : R.2.1 = 0 ∧ R.2.2.1 = -9) : DWS c0 p most R.1 (kv - kv') (ks - k0) e := by
  obtain ⟨a1, a2, a3, a4, a5, a6⟩ := h
  obtain ⟨b1, b2, b3, b4, b5, b6⟩ := hw
  rw [if_pos h2.1] at b4
  rw [if_pos h2.1] at b3
  refine ⟨a1.tr b1.1, b2.2, ⟨?_, ?_, b3.1, b3.2.1, b3.2.2.trans h2.2⟩, by omega, by omega, by omega⟩
  · rw [(wk_i hX b1.1 (Or.inl rfl)).2]; exact a3.1
  · rw [(wk_i hX b1.1 (Or.inr (Or.inr (Or.inl rfl)))).1]; exact a3.2.1
/-- the worker's own fields over a new value or sight -/
theorem wk_x (hX : FIX c) (hx : CX ys rs c e) (h1 : ∀ y, (11, y) ∉ ys) (y : Nat) : fI e 176 y = fI c 176 y ∧ fR e 176 y = fR c 176 y := by
  have h353 := hX.2.2.1
  have hk : ky 176 (kl c 176) = 11 := by rw [hX.wk.1]; rfl
  have : (ky 176 (kl c 176), y) ∉ ys := by rw [hk]; exact h1 y
  exact ⟨hx.i (by omega) this, hx.r (by omega) this⟩
theorem va11 (y : Nat) : (11, y) ∉ vaY := by unfold vaY; simp
theorem sn11 (y : Nat) : (11, y) ∉ snY := by unfold snY; simp
/-- a new value -/
theorem dw_new {V : Term} {n : Int} (hD : DWX A c0 σ t p) (hS : DWS c0 p most st kv ks c) (hw : VNW c e p a k n b x y g q) (hV : DV A e (YNG e p) V a []) : DWP A p 1 0 0 c st (rok st V) a e := by
  obtain ⟨a1, a2, a3, a4, a5, a6⟩ := hS
  obtain ⟨⟨b1, b2, b3, b4⟩, ⟨b5, -, -, b6⟩, b7, b8, b9⟩ := hw
  have hX := hD.fx a1
  obtain ⟨e3, e4, e5⟩ : fI e 176 3 = fI c 176 3 ∧ fI e 176 4 = fI c 176 4 ∧ fI e 176 5 = fI c 176 5 := ⟨(wk_x hX b1 va11 3).1, (wk_x hX b1 va11 4).1, (wk_x hX b1 va11 5).1⟩
  refine ⟨⟨b1.up (by decide) (fun u hu => ?_), b2⟩, ⟨b5, b6⟩, ⟨e3.trans a3.2.2.1, e4.trans a3.2.2.2.1, e5.trans a3.2.2.2.2⟩, ⟨by show fI e p 2 ≤ fI c p 2 + 2 * (st - st) + 1; omega, by show fI e p 3 ≤ fI c p 3 + (st - st) + 0; omega⟩, fun _ => hV, fun w => absurd rfl w⟩
  simp only [List.mem_singleton] at hu
  subst hu
  rcases hD.2.1 with rfl | rfl <;> decide
/-- one more is seen -/
theorem dw_bind {E V : Term} {l : List (Int × Nat)} {v : Nat} {z : Int} (hD : DWX A c0 σ t p) (hS : DWS c0 p most st kv ks c) (hE : isE n E) (hg : CHN c (YNG c p) g l ∧ DV A c (YNG c p) E 2 l) (hv : isV V = true ∧ DV A c (YNG c p) V v []) (hv2 : v ≠ 2) (hw : SNW c e p a z v g) : DWP A p 0 1 1 c st (rok st .null) a e ∧ CHN e (YNG e p) a ((z, v) :: l) ∧ DV A e (YNG e p) (upE E z V) 2 ((z, v) :: l) := by
  obtain ⟨a1, a2, a3, a4, a5, a6⟩ := hS
  obtain ⟨⟨b1, b2, b3, b4⟩, ⟨b5, b5a, -, b6⟩, b7, b8, b9, b10⟩ := hw
  have hX := hD.fx a1
  obtain ⟨e3, e4, e5⟩ : fI e 176 3 = fI c 176 3 ∧ fI e 176 4 = fI c 176 4 ∧ fI e 176 5 = fI c 176 5 := ⟨(wk_x hX b1 sn11 3).1, (wk_x hX b1 sn11 4).1, (wk_x hX b1 sn11 5).1⟩
  refine ⟨⟨⟨b1.up (by decide) (fun u hu => ?_), b2⟩, ⟨b5, b6⟩, ⟨e3.trans a3.2.2.1, e4.trans a3.2.2.2.1, e5.trans a3.2.2.2.2⟩, ⟨by show fI e p 2 ≤ fI c p 2 + 2 * (st - st) + 0; omega, by show fI e p 3 ≤ fI c p 3 + (st - st) + 1; omega⟩, fun _ => trivial, fun w => absurd rfl w⟩, ⟨⟨b5a, b7.2.2⟩, b8, b9, hv2, ?_⟩, ?_⟩
  · simp only [List.mem_singleton] at hu
    subst hu
    rcases hD.2.1 with rfl | rfl <;> decide
  · rw [b10]; exact CHN.up b5.2 l _ hg.1
  · exact DV_push hv2 hv.1 (DV_up b5.2 _ V v [] (Nat.lt_succ_self _) hv.2) n E hE (DV_up b5.2 _ E 2 l (Nat.lt_succ_self _) hg.2)
/-- the cell of a value -/
theorem DV_kind {V : Term} {l : List (Int × Nat)} (hv : isV V = true) (h : DV A c P V a l) : (P a ∧ kl c a = 10) ∧ fI c a 0 = vkd V ∧ fI c a 6 = if hsL V = true then 1 else 0 := by
  cases V with
  | int z => obtain ⟨⟨h1, h2⟩, h3, h4⟩ := h; exact ⟨h1, h2, h4⟩
  | arg z => obtain ⟨⟨h1, h2⟩, h3, h4⟩ := h; exact ⟨h1, h2, h4⟩
  | index z => obtain ⟨⟨h1, h2⟩, h3, h4⟩ := h; exact ⟨h1, h2, h4⟩
  | sub b E =>
    cases b with
    | index b => obtain ⟨⟨h1, h2⟩, h3, h4, h5⟩ := h; exact ⟨h1, h2, h4⟩
    | _ => cases hv
  | add x y => obtain ⟨⟨h1, h2⟩, h3, h4⟩ := h; exact ⟨h1, h2, h3⟩
  | div b E =>
    cases b with
    | index b => obtain ⟨⟨h1, h2⟩, h3, h4, h5⟩ := h; exact ⟨h1, h2, h4⟩
    | _ => cases hv
  | length x => obtain ⟨⟨h1, h2⟩, h3, h4⟩ := h; exact ⟨h1, h2, h3⟩
  | rem b z =>
    cases b with
    | index b =>
      cases z with
      | elem x z =>
        cases z with
        | elem y E => obtain ⟨⟨h1, h2⟩, h3, h4, h5⟩ := h; exact ⟨h1, h2, h4⟩
        | _ => cases hv
      | _ => cases hv
    | _ => cases hv
  | _ => cases hv
theorem isleft_c {V : Term} {l : List (Int × Nat)} {F : Int → SC → Prop} (hv : isV V = true) (h : DV A c P V a l) (hF : F (if isW V = true then 1 else 0) c) : ck iv L h0 d 225 [vr a] c (qi F) := by
  obtain ⟨h1, h2, h3⟩ := DV_kind hv h
  rw [isW_kd hv] at hF
  refine C225 ⟨h1.2, fun q => ?_, fun q => ?_⟩
  · rw [decide_eq_false (by omega), if_neg (by decide)] at hF; exact hF
  · rw [decide_eq_true (by omega), if_pos rfl] at hF; exact hF
theorem DV_ne {V : Term} {l : List (Int × Nat)} (hv : isV V = true) (h : DV A c (YNG c p) V a l) : a ≠ 2 := by
  have := (DV_kind hv h).1.1.1.1.1
  omega
theorem DV_neL {V : Term} {l : List (Int × Nat)} (hv : isV V = true) (h : DV A c (LIV c p) V a l) : a ≠ 2 := by
  have := (DV_kind hv h).1.1.1.1
  omega
/-- it stopped -/
theorem dstop_c {how z : Int} {F : Nat → SC → Prop} (hD : DWX A c0 σ t p) (hS : DWS c0 p most st kv ks c) (hh : how ≠ 0) (hF : ∀ e, DWP A p 0 0 0 c st (rst st how z) 2 e → F 2 e) : ck iv L h0 d 232 [vr 176, vi how, vi z] c (qa F) := by
  obtain ⟨a1, a2, a3, a4, a5, a6⟩ := hS
  have hX := hD.fx a1
  obtain ⟨k1, k2, k3⟩ := hX.wk
  have hp : p ≠ 176 := by have := hD.2.1; omega
  have h353 := hX.2.2.1
  have hk : ky 176 (kl c 176) = 11 := by rw [k1]; rfl
  have hx : CX wkY wkR c (uI (uI c 176 4 how) 176 5 z) := CX.uI (CX.uI CX.rf (fun _ => by rw [hk]; decide)) (fun _ => by show (ky 176 (kl c 176), 5) ∈ wkY; rw [hk]; decide)
  have ei : ∀ u v, u ≠ 176 → fI (uI (uI c 176 4 how) 176 5 z) u v = fI c u v := fun u v hu => by simp only [fI_uI, hu, and_false, if_false]
  have e3 : fI (uI (uI c 176 4 how) 176 5 z) 176 3 = fI c 176 3 := by simp only [fI_uI]; simp
  have e4 : fI (uI (uI c 176 4 how) 176 5 z) 176 4 = how := by simp only [fI_uI]; simp
  have e5 : fI (uI (uI c 176 4 how) 176 5 z) 176 5 = z := by simp only [fI_uI]; simp
  have hLv : ∀ u, LIV c p u → LIV (uI (uI c 176 4 how) 176 5 z) p u := fun u hu => LIV_eq (f := c) (e := uI (uI c 176 4 how) 176 5 z) rfl (fun v => ei p v hp) (fun _ => rfl) u hu
  have hYv : ∀ u, YNG c p u → YNG (uI (uI c 176 4 how) 176 5 z) p u := yng_up hLv (fun q i hq hn => ⟨rfl, rfl⟩)
  refine C232 ⟨k1, hF _ ⟨⟨hx, RMP.rf⟩, ⟨⟨fun u hu => ⟨hLv u hu, fun _ => ⟨rfl, fun v _ => ⟨ei u v (by have := hu.1.1; omega), rfl⟩⟩⟩, fun u hu => ⟨hYv u hu, fun _ => ⟨rfl, fun v _ => ⟨ei u v (by have := hu.1.1.1; omega), rfl⟩⟩⟩⟩, PL2_eq a2 rfl (fun q v hq => ei q v (by omega)) (fun _ => rfl) (fun _ => rfl)⟩, ⟨e3.trans a3.2.2.1, ?_, e5⟩, ⟨?_, ?_⟩, fun w => absurd w hh, fun _ => rfl⟩⟩
  · show _ = if how = 0 then -1 else how
    rw [if_neg hh]; exact e4
  · rw [ei p 2 hp]; show fI c p 2 ≤ fI c p 2 + 2 * (st - st) + 0; omega
  · rw [ei p 3 hp]; show fI c p 3 ≤ fI c p 3 + (st - st) + (if how = 0 then 0 else 0); rw [if_neg hh]; omega
/-- a node of the sheet, as it lies while working -/
theorem DWX.node (h : DWX A c0 σ t p) (hx : CX wkY wkR c0 c) {b : Int} (hb : b ∈ fl t) : (kl c (A b) = 5 ∧ fI c (A b) 0 = b ∧ fI c (A b) 1 = σ.2 9 b ∧ fI c (A b) 4 = σ.2 10 b ∧ fI c (A b) 10 = σ.2 21 b) ∧ (0 ≤ σ.2 21 b ∧ σ.2 21 b ≤ 6 ∧ (σ.2 21 b = 1 → σ.2 9 b = 3)) ∧ (fR c (A b) 3 = A b + 1 ∧ kl c (A b + 1) = 103 ∧ le c (A b + 1) = pO (σ.2 9 b)) ∧ ∀ i, 0 ≤ i → i < pO (σ.2 9 b) → aR c (A b + 1) i = A (σ.2 14 (3 * b + i)) := by
  obtain ⟨⟨⟨⟨hX, hN, hH, hL⟩, -, hI, hJ⟩, hT, -⟩, -, hj⟩ := h
  obtain ⟨j1, j2⟩ := hj b hb
  obtain ⟨-, -, hJx⟩ := hJ
  obtain ⟨-, -, g1, g2, g3⟩ := hJx b hb
  have hbl := hT.lt hb
  obtain ⟨⟨n1, n2, n3, n4, n5, n6, n7, n8⟩, n9, n10⟩ := hN.2 b hbl.1 hbl.2.1
  have k5 : ky (A b) (kl c0 (A b)) = 5 := by rw [ky5 n10]; exact n1
  have hl : A b < nxt c0 := by omega
  have nk : ∀ y, (ky (A b) (kl c0 (A b)), y) ∉ wkY := fun y => by rw [k5]; unfold wkY; simp
  have hrk : rk (A b + 1) (kl c0 (A b + 1)) ∉ wkR := by
    rw [n2]; unfold rk wkR
    rcases n10 with e | e
    · rw [e]; decide
    · rw [if_neg (by omega)]; decide
  refine ⟨⟨(hx.k hl).trans n1, (hx.i hl (nk 0)).trans n4, (hx.i hl (nk 1)).trans n5, (hx.i hl (nk 4)).trans n8, ?_⟩, ⟨by rw [j1]; exact g2, by rw [j1]; exact g3, j2⟩, ⟨(hx.r hl (nk 3)).trans n7, (hx.k n9).trans n2, (hx.l n9).trans n3⟩, fun i i0 i1 => ?_⟩
  · rw [hx.i hl (nk 10), g1, j1]
  · rw [hx.ar n9 hrk]
    exact (hH.1 b hb).2.2 i i0 i1
end
end
section
/-! Working by the desk: values made, wholes reckoned, an act. -/
section
variable {iv : List (Int × Int)} {L : Nat} {h0 : MH} {A A' : Int → Nat} {P : Nat → Prop} {c c0 e f : SC} {σ s s' w : SM} {t : Term} {d p a g x y n : Nat} {b most st kv ks kv' ks' k0 k1 k q : Int} {ys : List (Nat × Nat)} {rs : List Nat} {R : RS} {X Y E : Term} {l : List (Int × Nat)}
theorem ck_mono {M d d' : Nat} {as : List VV} {F F' : Nat → SC → Prop} (h : ck iv L h0 d M as c (qa F)) (hd : d ≤ d') (hq : ∀ z s', F z s' → F' z s') : ck iv L h0 d' M as c (qa F') := wc_mono h hd (fun _ _ ⟨z, e, q⟩ => ⟨z, e, hq _ _ q⟩)
theorem dv_int {N : Int} (hw : VNW c e p a 0 N 2 2 2 2 (vfl 0)) (hN : inR N) : DV A e (YNG e p) (.int (Int32.ofInt N)) a [] := by
  obtain ⟨-, ⟨-, b1, -, -⟩, b2, b3, -⟩ := hw
  exact ⟨⟨⟨b1, b2.2.2⟩, b3.1⟩, by rw [b3.2.1, i_to hN], b3.2.2.2.2.2.2⟩
theorem dv_arg {N : Int} (hw : VNW c e p a 1 N 2 2 2 2 (vfl 1)) (hN : 0 ≤ N) : DV A e (YNG e p) (.arg N.toNat) a [] := by
  obtain ⟨-, ⟨-, b1, -, -⟩, b2, b3, -⟩ := hw
  exact ⟨⟨⟨b1, b2.2.2⟩, b3.1⟩, by rw [b3.2.1]; omega, b3.2.2.2.2.2.2⟩
theorem dv_index {N : Int} (hw : VNW c e p a 5 N 2 2 2 2 (vfl 5)) (hN : 0 ≤ N) : DV A e (YNG e p) (.index N.toNat) a [] := by
  obtain ⟨-, ⟨-, b1, -, -⟩, b2, b3, -⟩ := hw
  exact ⟨⟨⟨b1, b2.2.2⟩, b3.1⟩, by rw [b3.2.1]; omega, b3.2.2.2.2.2.2⟩
theorem dv_sub (hw : VNW c e p a 2 0 (A b) 2 2 g (vfl 2)) (hb : 0 ≤ b) (hg : CHN c (YNG c p) g l ∧ DV A c (YNG c p) E 2 l) : DV A e (YNG e p) (.sub (.index b.toNat) E) a [] := by
  obtain ⟨-, ⟨b0, b1, -, -⟩, b2, b3, -⟩ := hw
  refine ⟨⟨⟨b1, b2.2.2⟩, b3.1⟩, by rw [b3.2.2.1]; congr 1; omega, b3.2.2.2.2.2.2, l, ?_, DV_up b0.2 _ E 2 l (Nat.lt_succ_self _) hg.2⟩
  rw [b3.2.2.2.2.2.1]
  exact CHN.up b0.2 l g hg.1
theorem dv_div (hw : VNW c e p a 4 0 (A b) 2 2 g (vfl 4)) (hb : 0 ≤ b) (hg : CHN c (YNG c p) g l ∧ DV A c (YNG c p) E 2 l) : DV A e (YNG e p) (.div (.index b.toNat) E) a [] := by
  obtain ⟨-, ⟨b0, b1, -, -⟩, b2, b3, -⟩ := hw
  refine ⟨⟨⟨b1, b2.2.2⟩, b3.1⟩, by rw [b3.2.2.1]; congr 1; omega, b3.2.2.2.2.2.2, l, ?_, DV_up b0.2 _ E 2 l (Nat.lt_succ_self _) hg.2⟩
  rw [b3.2.2.2.2.2.1]
  exact CHN.up b0.2 l g hg.1
theorem dv_len (hw : VNW c e p a 6 0 2 x 2 2 1) (hx : DV A c (YNG c p) X x []) : DV A e (YNG e p) (.length X) a [] := by
  obtain ⟨-, ⟨b0, b1, -, -⟩, b2, b3, -⟩ := hw
  refine ⟨⟨⟨b1, b2.2.2⟩, b3.1⟩, b3.2.2.2.2.2.2, ?_⟩
  rw [b3.2.2.2.1]
  exact DV_up b0.2 _ X x [] (Nat.lt_succ_self _) hx
theorem dv_add (hX : isV X = true) (hY : isV Y = true) (hx : DV A c (YNG c p) X x []) (hy : DV A c (YNG c p) Y y []) (hw : VNW c e p a 3 0 2 x y 2 (if fI c x 6 ≠ 0 ∨ fI c y 6 ≠ 0 then 1 else 0)) : DV A e (YNG e p) (.add X Y) a [] := by
  obtain ⟨-, ⟨b0, b1, -, -⟩, b2, b3, -⟩ := hw
  obtain ⟨-, -, x6⟩ := DV_kind hX hx
  obtain ⟨-, -, y6⟩ := DV_kind hY hy
  refine ⟨⟨⟨b1, b2.2.2⟩, b3.1⟩, ?_, ?_, ?_⟩
  · rw [b3.2.2.2.2.2.2, x6, y6]
    show _ = if (hsL X || hsL Y) = true then (1 : Int) else 0
    cases hsL X <;> cases hsL Y <;> simp
  · rw [b3.2.2.2.1]; exact DV_up b0.2 _ X x [] (Nat.lt_succ_self _) hx
  · rw [b3.2.2.2.2.1]; exact DV_up b0.2 _ Y y [] (Nat.lt_succ_self _) hy
theorem dv_rem (hw : VNW c e p a 7 0 (A b) x y g 1) (hb : 0 ≤ b) (hx : DV A c (YNG c p) X x []) (hy : (Y = .null ∧ y = 2) ∨ (isV Y = true ∧ DV A c (YNG c p) Y y [])) (hg : (E = .null ∧ g = 2) ∨ (E ≠ .null ∧ CHN c (YNG c p) g l ∧ DV A c (YNG c p) E 2 l)) : DV A e (YNG e p) (.rem (.index b.toNat) (.elem X (.elem Y E))) a [] := by
  obtain ⟨-, ⟨b0, b1, -, -⟩, b2, b3, -⟩ := hw
  refine ⟨⟨⟨b1, b2.2.2⟩, b3.1⟩, by rw [b3.2.2.1]; congr 1; omega, b3.2.2.2.2.2.2, ?_, ?_, ?_, ?_⟩
  · rw [b3.2.2.2.1]; exact DV_up b0.2 _ X x [] (Nat.lt_succ_self _) hx
  · rw [b3.2.2.2.2.1]
    rcases hy with ⟨h1, h2⟩ | ⟨h1, h2⟩
    · exact ⟨fun _ => h2, fun _ => h1⟩
    · exact ⟨fun w => absurd w (isV_nn h1), fun w => absurd w (DV_ne h1 h2)⟩
  · rw [b3.2.2.2.2.1]
    rcases hy with ⟨h1, h2⟩ | ⟨h1, h2⟩
    · exact fun w => absurd h1 w
    · exact fun _ => DV_up b0.2 _ Y y [] (Nat.lt_succ_self _) h2
  · rw [b3.2.2.2.2.2.1]
    rcases hg with h1 | ⟨h1, h2, h3⟩
    · exact Or.inl h1
    · exact Or.inr ⟨h1, l, CHN.up b0.2 l g h2, DV_up b0.2 _ E 2 l (Nat.lt_succ_self _) h3⟩
theorem DWS.vl (h : DWS c0 p most st kv ks c) (hk : 0 ≤ kv) : PL2 c ∧ fI c p 2 < 620 := by
  obtain ⟨a1, a2, a3, a4, a5, a6⟩ := h
  exact ⟨a2, by omega⟩
theorem DWS.sg (h : DWS c0 p most st kv ks c) (hk : 0 ≤ ks) : PL2 c ∧ fI c p 3 < 320 := by
  obtain ⟨a1, a2, a3, a4, a5, a6⟩ := h
  exact ⟨a2, by omega⟩
theorem dint_c {N : Int} {F : Nat → SC → Prop} (hD : DWX A c0 σ t p) (hS : DWS c0 p most st kv ks c) (hk : 0 ≤ kv) (hN : inR N) (hF : ∀ a e, DWP A p 1 0 0 c st (rok st (.int (Int32.ofInt N))) a e → F a e) : ck iv L h0 (d + 2) 196 [vr p, vi 0, vi N] c (qa F) :=
  plainv_c (hD.fx hS.1) hD.2.1 (hS.vl hk).1 (hS.vl hk).2 (fun e a hw => hF a e (dw_new hD hS hw (dv_int hw hN)))
theorem darg_c {N : Int} {F : Nat → SC → Prop} (hD : DWX A c0 σ t p) (hS : DWS c0 p most st kv ks c) (hk : 0 ≤ kv) (hN : 0 ≤ N) (hF : ∀ a e, DWP A p 1 0 0 c st (rok st (.arg N.toNat)) a e → F a e) : ck iv L h0 (d + 2) 196 [vr p, vi 1, vi N] c (qa F) :=
  plainv_c (hD.fx hS.1) hD.2.1 (hS.vl hk).1 (hS.vl hk).2 (fun e a hw => hF a e (dw_new hD hS hw (dv_arg hw hN)))
theorem dindex_c {N : Int} {F : Nat → SC → Prop} (hD : DWX A c0 σ t p) (hS : DWS c0 p most st kv ks c) (hk : 0 ≤ kv) (hN : 0 ≤ N) (hF : ∀ a e, DWP A p 1 0 0 c st (rok st (.index N.toNat)) a e → F a e) : ck iv L h0 (d + 2) 196 [vr p, vi 5, vi N] c (qa F) :=
  plainv_c (hD.fx hS.1) hD.2.1 (hS.vl hk).1 (hS.vl hk).2 (fun e a hw => hF a e (dw_new hD hS hw (dv_index hw hN)))
theorem dsub_c {F : Nat → SC → Prop} (hD : DWX A c0 σ t p) (hS : DWS c0 p most st kv ks c) (hk : 0 ≤ kv) (hb : 0 ≤ b) (hg : CHN c (YNG c p) g l ∧ DV A c (YNG c p) E 2 l) (hF : ∀ a e, DWP A p 1 0 0 c st (rok st (.sub (.index b.toNat) E)) a e → F a e) : ck iv L h0 (d + 2) 197 [vr p, vi 2, vr (A b), vr g] c (qa F) :=
  seeing_c (hD.fx hS.1) hD.2.1 (hS.vl hk).1 (hS.vl hk).2 (fun e a hw => hF a e (dw_new hD hS hw (dv_sub hw hb hg)))
theorem ddiv_c {F : Nat → SC → Prop} (hD : DWX A c0 σ t p) (hS : DWS c0 p most st kv ks c) (hk : 0 ≤ kv) (hb : 0 ≤ b) (hg : CHN c (YNG c p) g l ∧ DV A c (YNG c p) E 2 l) (hF : ∀ a e, DWP A p 1 0 0 c st (rok st (.div (.index b.toNat) E)) a e → F a e) : ck iv L h0 (d + 2) 197 [vr p, vi 4, vr (A b), vr g] c (qa F) :=
  seeing_c (hD.fx hS.1) hD.2.1 (hS.vl hk).1 (hS.vl hk).2 (fun e a hw => hF a e (dw_new hD hS hw (dv_div hw hb hg)))
theorem dlen_c {F : Nat → SC → Prop} (hD : DWX A c0 σ t p) (hS : DWS c0 p most st kv ks c) (hk : 0 ≤ kv) (hx : DV A c (YNG c p) X x []) (hF : ∀ a e, DWP A p 1 0 0 c st (rok st (.length X)) a e → F a e) : ck iv L h0 (d + 2) 199 [vr p, vr x] c (qa F) :=
  framed_c (hD.fx hS.1) hD.2.1 (hS.vl hk).1 (hS.vl hk).2 (fun e a hw => hF a e (dw_new hD hS hw (dv_len hw hx)))
theorem dadd_c {F : Nat → SC → Prop} (hD : DWX A c0 σ t p) (hS : DWS c0 p most st kv ks c) (hk : 0 ≤ kv) (hX : isV X = true) (hY : isV Y = true) (hx : DV A c (YNG c p) X x []) (hy : DV A c (YNG c p) Y y []) (hF : ∀ a e, DWP A p 1 0 0 c st (rok st (.add X Y)) a e → F a e) : ck iv L h0 (d + 2) 198 [vr p, vr x, vr y] c (qa F) :=
  couple_c (hD.fx hS.1) hD.2.1 (hS.vl hk).1 (hS.vl hk).2 (DV_kind hX hx).1 (DV_kind hY hy).1 (fun e a hw => hF a e (dw_new hD hS hw (dv_add hX hY hx hy hw)))
theorem drem_c {F : Nat → SC → Prop} (hD : DWX A c0 σ t p) (hS : DWS c0 p most st kv ks c) (hk : 0 ≤ kv) (hb : 0 ≤ b) (hx : DV A c (YNG c p) X x []) (hy : (Y = .null ∧ y = 2) ∨ (isV Y = true ∧ DV A c (YNG c p) Y y [])) (hg : (E = .null ∧ g = 2) ∨ (E ≠ .null ∧ CHN c (YNG c p) g l ∧ DV A c (YNG c p) E 2 l)) (hF : ∀ a e, DWP A p 1 0 0 c st (rok st (.rem (.index b.toNat) (.elem X (.elem Y E)))) a e → F a e) : ck iv L h0 (d + 2) 200 [vr p, vr (A b), vr x, vr y, vr g] c (qa F) :=
  acted_c (hD.fx hS.1) hD.2.1 (hS.vl hk).1 (hS.vl hk).2 (fun e a hw => hF a e (dw_new hD hS hw (dv_rem hw hb hx hy hg)))
/-- two wholes -/
theorem dreck_c {m n : Int32} {F : Nat → SC → Prop} (hD : DWX A c0 σ t p) (hS : DWS c0 p most st kv ks c) (hk : 0 ≤ kv) (hb : b ∈ fl t) (hso : σ.2 9 b = 4 ∨ σ.2 9 b = 5 ∨ σ.2 9 b = 6 ∨ σ.2 9 b = 7) (hF : ∀ a e, DWP A p 1 0 0 c st (rckE (σ.2 9 b) b (.int m) (.int n) st) a e → F a e) : ck iv L h0 (d + 3) 240 [vr 176, vr (A b), vi m.toInt, vi n.toInt] c (qa F) := by
  have hx := hS.1
  obtain ⟨w1, w2, w3⟩ := hD.wk hx
  obtain ⟨⟨n1, n2, n3, n4, n5⟩, -⟩ := hD.node hx hb
  have hp := hS.2.2.1.1
  have hF' : ∀ a e, DWP A p 1 0 0 c st (if σ.2 9 b = 7 then rok st (.arg (if m.toInt < n.toInt then 1 else 0)) else if σ.2 9 b = 6 ∧ n.toInt = 0 then rst st 2 b else rok st (.int (Int32.ofInt (wh2 (σ.2 9 b) m.toInt n.toInt)))) a e → F a e := hF
  refine D240 ⟨n1, ?_⟩
  rw [n2, n3, hp]
  refine ⟨fun q => ⟨w1, w2, dint_c hD hS hk (w32_in _) (fun a e h => hF' a e ?_)⟩, fun q => ⟨w1, w2, dint_c hD hS hk (w32_in _) (fun a e h => hF' a e ?_)⟩, fun q => ⟨fun z => ⟨w1, z, w2, dint_c hD hS hk (w32_in _) (fun a e h => hF' a e ?_)⟩, fun z => ⟨w1, dstop_c hD hS (by decide) (fun e h => hF' 2 e ?_)⟩⟩, fun q => ⟨w1, fun z => ⟨w2, darg_c hD hS hk (by decide) (fun a e h => hF' a e ?_)⟩, fun z => ⟨w2, darg_c hD hS hk (by decide) (fun a e h => hF' a e ?_)⟩⟩⟩
  · rw [if_neg (by omega), if_neg (by omega), q]; exact h
  · rw [if_neg (by omega), if_neg (by omega), q]; exact h
  · rw [if_neg (by omega), if_neg (fun w => z w.2), q]; exact h
  · rw [if_neg (by omega), if_pos ⟨q, z⟩]; exact h.up (by decide) (by decide) (by decide)
  · rw [if_pos (by omega), if_neg (by omega)]; exact h
  · rw [if_pos (by omega), if_pos (by omega)]; exact h
end
end
