section
/-! The trials of the desk: where they lie, judging one. -/
/-- where the trials lie -/
def tra : Nat → Nat
  | 0 => 233
  | n + 1 => tra n + 2 + 2 * (pO n).toNat
def TRc (c : SC) : Prop := ∀ n : Nat, 1 ≤ n → n < 16 → (aR c 194 n = tra n ∧ kl c (tra n) = 5 ∧ kl c (tra n + 1) = 103 ∧ le c (tra n + 1) = pO n ∧ fI c (tra n) 1 = n ∧ fR c (tra n) 3 = tra n + 1 ∧ (n = 8 ∨ n = 15 → fI c (tra n) 2 = 0)) ∧ ∀ i : Nat, (i : Int) < pO n → aR c (tra n + 1) i = tra n + 2 + 2 * i ∧ kl c (tra n + 2 + 2 * i) = 5 ∧ kl c (tra n + 2 + 2 * i + 1) = 103 ∧ le c (tra n + 2 + 2 * i + 1) = 0 ∧ fI c (tra n + 2 + 2 * i) 1 = 0 ∧ fR c (tra n + 2 + 2 * i) 3 = tra n + 2 + 2 * i + 1 ∧ fR c (tra n + 2 + 2 * i) 5 = tra n ∧ fI c (tra n + 2 + 2 * i) 6 = i
theorem tra_in : ∀ n : Nat, n < 16 → (n ≠ 0 → 235 ≤ tra n) ∧ (tra n : Int) + 2 + 2 * pO n ≤ 307 := by decide +kernel
def trA (A : Int → Nat) (n : Nat) : Int → Nat := fun b => if 3000 ≤ b ∧ b < 3004 then tra n + 2 * (b - 3000).toNat else A b
def trX (c : SC) (s : SM) (n : Nat) : SM := (s.1, fun f b => if f = 14 then (if 9000 ≤ b ∧ b < 9003 then b - 5999 else s.2 14 b) else if 3000 ≤ b ∧ b < 3004 then (if f = 9 then (if b = 3000 then (n : Int) else 0) else if f = 10 then fI c (tra n + 2 * (b - 3000).toNat) 4 else if f = 11 then fI c (tra n + 2 * (b - 3000).toNat) 2 else if f = 12 then (if b = 3000 then s.2 12 (s.1 16) else 3000) else if f = 13 then (if b = 3000 then s.2 13 (s.1 16) else b - 3001) else s.2 f b) else s.2 f b)
def trT (n : Nat) : Term := adds (pO n).toNat 3001 (.index 3000)
theorem trT_mem {n : Nat} {y : Int} (h : y ∈ fl (trT n)) : 3000 ≤ y ∧ y < 3001 + pO n := by
  have hpo := pO_in n
  unfold trT at h
  rcases adds_mem h with q | q
  · have : y = ((3000 : Nat) : Int) := List.mem_singleton.mp q
    omega
  · omega
theorem trT_in {n : Nat} {y : Int} (h : 3000 ≤ y ∧ y < 3001 + pO n) : y ∈ fl (trT n) := by
  have hpo := pO_in n
  unfold trT
  rw [adds_fl]
  by_cases q : y = 3000
  · rw [q]; exact List.mem_append_left _ (List.mem_singleton.mpr rfl)
  · refine List.mem_append_right _ (List.mem_map.mpr ⟨y.toNat, List.mem_range'.mpr ⟨(y - 3001).toNat, by omega, by omega⟩, ?_⟩)
    show ((y.toNat : Nat) : Int) = y
    omega
theorem AT_tr {so pa up pl : Int → Int} {n : Nat} (hn : n < 16) (h0 : so 3000 = n) (h1 : ∀ b, 3000 < b → b < 3004 → so b = 0 ∧ up b = 3000 ∧ pl b = b - 3001 ∧ pa (b + 5999) = b) : AT so pa up pl 3004 (trT n) ∧ full so (trT n) ∧ (fl (trT n)).Nodup ∧ hd (trT n) = 3000 := by
  have hpo := pO_in n
  have p0 : pO 0 = 0 := by decide
  obtain ⟨a1, a2, a3, a4⟩ := h1 3001 (by decide) (by decide)
  obtain ⟨b1, b2, b3, b4⟩ := h1 3002 (by decide) (by decide)
  obtain ⟨c1, c2, c3, c4⟩ := h1 3003 (by decide) (by decide)
  have x0 : AT so pa up pl 3004 (.index 3000) := ⟨by decide, by show 0 ≤ so 3000 ∧ so 3000 < 16; rw [h0]; omega⟩
  have x1 : AT so pa up pl 3004 (.index 3001) := ⟨by decide, by show 0 ≤ so 3001 ∧ so 3001 < 16; rw [a1]; omega⟩
  have x2 : AT so pa up pl 3004 (.index 3002) := ⟨by decide, by show 0 ≤ so 3002 ∧ so 3002 < 16; rw [b1]; omega⟩
  have x3 : AT so pa up pl 3004 (.index 3003) := ⟨by decide, by show 0 ≤ so 3003 ∧ so 3003 < 16; rw [c1]; omega⟩
  have g1 : 0 < pO n → AT so pa up pl 3004 (.add (.index 3000) (.index 3001)) := fun q => ⟨x0, x1, by show 0 = pO (so 3001); rw [a1, p0], by show 0 < pO (so 3000); rw [h0]; exact q, a4, a2, a3⟩
  have g2 : 1 < pO n → AT so pa up pl 3004 (.add (.add (.index 3000) (.index 3001)) (.index 3002)) := fun q => ⟨g1 (by omega), x2, by show 0 = pO (so 3002); rw [b1, p0], by show 1 < pO (so 3000); rw [h0]; exact q, b4, b2, b3⟩
  have g3 : 2 < pO n → AT so pa up pl 3004 (.add (.add (.add (.index 3000) (.index 3001)) (.index 3002)) (.index 3003)) := fun q => ⟨g2 (by omega), x3, by show 0 = pO (so 3003); rw [c1, p0], by show 2 < pO (so 3000); rw [h0]; exact q, c4, c2, c3⟩
  unfold trT
  rcases (show pO n = 0 ∨ pO n = 1 ∨ pO n = 2 ∨ pO n = 3 by omega) with e | e | e | e
  · rw [e]
    exact ⟨x0, by show 0 = pO (so 3000); rw [h0, e], by decide, rfl⟩
  · rw [e]
    exact ⟨g1 (by omega), by show 1 = pO (so 3000); rw [h0, e], by decide, rfl⟩
  · rw [e]
    exact ⟨g2 (by omega), by show 2 = pO (so 3000); rw [h0, e], by decide, rfl⟩
  · rw [e]
    exact ⟨g3 (by omega), by show 3 = pO (so 3000); rw [h0, e], by decide, rfl⟩
theorem KJ_lt {n m : Int} {ks ka kb sz ks' ka' kb' sz' : Int → Int} (h : KJ n m ks ka kb sz) (he : ∀ k, k < m → ks' k = ks k ∧ ka' k = ka k ∧ kb' k = kb k ∧ sz' k = sz k) : KJ n m ks' ka' kb' sz' := by
  obtain ⟨h1, h2, h3⟩ := h
  refine ⟨KI_lt h1 (fun k _ kn => he k (by have := h1.1; omega)), h2, fun k k4 km => ?_⟩
  obtain ⟨q1, q2, q3, q4, q5⟩ := h3 k k4 km
  obtain ⟨e1, e2, e3, e4⟩ := he k km
  have n2 : ka k < m := by unfold vk at q2; have := h1.1; omega
  have n3 : kb k < m := by unfold vk at q3; have := h1.1; omega
  rw [e1, e2, e3, e4, (he _ n2).2.2.2, (he _ n3).2.2.2]
  exact ⟨q1, q2, q3, q4, q5⟩
def trY : List (Nat × Nat) := [(25, 4), (25, 5), (25, 6), (5, 8), (5, 9), (5, 10), (25, 8), (25, 9), (25, 10), (4, 5)]
def trR : List Nat := [66, 67, 68, 69, 195, 196]
section
variable {iv : List (Int × Int)} {L : Nat} {h0 : MH} {A A' : Int → Nat} {c e : SC} {s s' w : SM} {t : Term} {d : Nat} {ys : List (Nat × Nat)} {rs : List Nat}
theorem trX_o {n : Nat} {f : Nat} {b : Int} (hb : b < 3000) (hf : f ≠ 14) : (trX c s n).2 f b = s.2 f b := by
  unfold trX
  dsimp only
  rw [if_neg hf, if_neg (by omega)]
theorem trX_14 {n : Nat} {b : Int} (hb : b < 9000) : (trX c s n).2 14 b = s.2 14 b := by
  unfold trX
  dsimp only
  rw [if_pos rfl, if_neg (by omega)]
theorem trX_n {n : Nat} {b : Int} (hb : 3000 ≤ b ∧ b < 3004) : (trX c s n).2 9 b = (if b = 3000 then (n : Int) else 0) ∧ (trX c s n).2 10 b = fI c (tra n + 2 * (b - 3000).toNat) 4 ∧ (trX c s n).2 11 b = fI c (tra n + 2 * (b - 3000).toNat) 2 ∧ (trX c s n).2 12 b = (if b = 3000 then s.2 12 (s.1 16) else 3000) ∧ (trX c s n).2 13 b = (if b = 3000 then s.2 13 (s.1 16) else b - 3001) := by
  unfold trX
  dsimp only
  refine ⟨?_, ?_, ?_, ?_, ?_⟩
  · rw [if_neg (by decide), if_pos hb, if_pos rfl]
  · rw [if_neg (by decide), if_pos hb, if_neg (by decide), if_pos rfl]
  · rw [if_neg (by decide), if_pos hb, if_neg (by decide), if_neg (by decide), if_pos rfl]
  · rw [if_neg (by decide), if_pos hb, if_neg (by decide), if_neg (by decide), if_neg (by decide), if_pos rfl]
  · rw [if_neg (by decide), if_pos hb, if_neg (by decide), if_neg (by decide), if_neg (by decide), if_neg (by decide), if_pos rfl]
theorem trX_p {n : Nat} {b : Int} (hb : 3000 < b ∧ b < 3004) : (trX c s n).2 14 (b + 5999) = b := by
  unfold trX
  dsimp only
  rw [if_pos rfl, if_pos (by omega)]; omega
theorem trA_o {n : Nat} {b : Int} (hb : b < 3000) : trA A n b = A b := if_neg (by omega)
/-- a trial hangs where the cursor does: the place to judge it -/
theorem tr_js {n : Nat} (h1 : R1 A c s t) (hS : SHT s t) (hc : s.1 16 ∈ fl t) (hT : TRc c) (hn : 1 ≤ n ∧ n < 16) (h5 : fR c (tra n) 5 = fR c (A (s.1 16)) 5) (h6 : fI c (tra n) 6 = fI c (A (s.1 16)) 6) : JS (trA A n) (fun x => x ∈ fl t ∨ x ∈ fl (trT n)) c (trX c s n) := by
  obtain ⟨⟨r1, r2, r3, r4, r5, r6, r7⟩, rp⟩ := hT n hn.1 hn.2
  obtain ⟨z1, z2⟩ := tra_in n hn.2
  have z1 := z1 (by omega)
  have hpo := pO_in n
  have hJ := js_of h1.1.1 h1.1.2.1 h1.1.2.2.1 hS
  have lt : ∀ x, x ∈ fl t → x < 3000 ∧ 0 ≤ x := fun x hx => by have := hS.m x hx; have := hS.2.2.2.2.1; omega
  have Ab : ∀ x, x ∈ fl t → A x = 73 ∨ 353 ≤ A x := fun x hx => (h1.1.2.1.2 x (hS.m x hx).1 (hS.m x hx).2).2.2
  obtain ⟨g1, g2, g3⟩ := h1.1.2.2.1.1 _ hc
  have t0 : trA A n 3000 = tra n := by unfold trA; rw [if_pos (by omega)]; omega
  have tp : ∀ b, 3000 ≤ b → b < 3004 → trA A n b = tra n + 2 * (b - 3000).toNat := fun b b0 b1 => if_pos ⟨b0, b1⟩
  have par : ∀ b, 3000 < b → b < 3001 + pO n → ∃ i : Nat, (i : Int) < pO n ∧ b = 3001 + i ∧ trA A n b = tra n + 2 + 2 * i := fun b b0 b1 => ⟨(b - 3001).toNat, by omega, by omega, by rw [tp b (by omega) (by omega)]; omega⟩
  refine ⟨⟨?_, fun b b' hb hb' he => ?_⟩, fun b hb => ?_⟩
  · rw [trA_o (by decide)]; exact hJ.1.1
  · rcases hb with hb | hb <;> rcases hb' with hb' | hb'
    · rw [trA_o (lt b hb).1, trA_o (lt b' hb').1] at he
      exact hJ.1.2 b b' hb hb' he
    · have m := trT_mem hb'
      rw [trA_o (lt b hb).1, tp b' (by omega) (by omega)] at he
      have := Ab b hb
      omega
    · have m := trT_mem hb
      rw [trA_o (lt b' hb').1, tp b (by omega) (by omega)] at he
      have := Ab b' hb'
      omega
    · have m := trT_mem hb
      have m' := trT_mem hb'
      rw [tp b (by omega) (by omega), tp b' (by omega) (by omega)] at he
      omega
  · rcases hb with hb | hb
    · obtain ⟨b0, b1⟩ := lt b hb
      obtain ⟨p1, p2, ⟨p3, p4, p5⟩, p6⟩ := hJ.2 b hb
      rw [trA_o b0, trX_o b0 (by decide), trX_o b0 (by decide), trX_o b0 (by decide), trX_o b0 (by decide), trX_o b0 (by decide)]
      refine ⟨p1, p2, ⟨?_, p4, p5.imp id Or.inl⟩, fun i i0 i1 => ?_⟩
      · rw [p3]
        rcases p5 with q | q
        · rw [q, trA_o (by decide)]
        · rw [trA_o (lt _ q).1]
      · obtain ⟨q1, q2⟩ := p6 i i0 i1
        have := pO_in (s.2 9 b)
        rw [trX_14 (by omega), q1, trA_o (lt _ q2).1]
        exact ⟨rfl, Or.inl q2⟩
    · have m := trT_mem hb
      have hb4 : 3000 ≤ b ∧ b < 3004 := by omega
      obtain ⟨x9, x10, x11, x12, x13⟩ := trX_n (c := c) (s := s) (n := n) hb4
      have p0 : pO 0 = 0 := by decide
      by_cases q : b = 3000
      · subst q
        rw [if_pos rfl] at x9 x12 x13
        have ez : tra n + 2 * ((3000 : Int) - 3000).toNat = tra n := by simp
        rw [ez] at x10 x11
        rw [t0, x9, x10, x11, x12, x13]
        refine ⟨⟨by omega, r2, r3, r4⟩, ⟨r5, rfl, rfl, r6⟩, ⟨?_, fun w => ?_, ?_⟩, fun i i0 i1 => ?_⟩
        · rw [h5, g1]
          by_cases w : s.1 16 = hd t
          · have hu := hS.2.2.2.2.2.2.1
            rw [← w] at hu
            rw [hu, trA_o (by decide)]
          · rw [trA_o (lt _ (hS.up9 hc w)).1]
        · rw [h6]
          exact g2 (fun w' => w (by rw [w']; exact hS.2.2.2.2.2.2.1))
        · by_cases w : s.1 16 = hd t
          · left; rw [w]; exact hS.2.2.2.2.2.2.1
          · right; left; exact hS.up9 hc w
        · obtain ⟨k, rfl⟩ : ∃ k : Nat, i = k := ⟨i.toNat, by omega⟩
          obtain ⟨q1, -⟩ := rp k i1
          have hx := trX_p (c := c) (s := s) (n := n) (b := 3001 + k) ⟨by omega, by omega⟩
          rw [show (3001 : Int) + k + 5999 = 3 * 3000 + k by omega] at hx
          rw [hx, q1, tp _ (by omega) (by omega)]
          exact ⟨by omega, Or.inr (trT_in ⟨by omega, by omega⟩)⟩
      · obtain ⟨i, i1, rfl, i2⟩ := par b (by omega) m.2
        rw [if_neg q] at x9 x12 x13
        obtain ⟨q1, q2, q3, q4, q5, q6, q7, q8⟩ := rp i i1
        have ez : tra n + 2 * (3001 + (i : Int) - 3000).toNat = tra n + 2 + 2 * i := by omega
        rw [ez] at x10 x11
        rw [i2, x9, x10, x11, x12, x13, t0, p0]
        refine ⟨⟨by omega, q2, q3, q4⟩, ⟨q5, rfl, rfl, q6⟩, ⟨q7, fun _ => by rw [q8]; omega, Or.inr (Or.inr (trT_in ⟨by omega, by omega⟩))⟩, fun j j0 j1 => by omega⟩
end
end
section
/-! A trial judged. -/
/-- what judging a trial leaves -/
def TRK (A : Int → Nat) (c e : SC) (t : Term) (r : Int) : Prop := (CX jys jrs c e ∧ RMk 0 0 c e) ∧ (0 ≤ r ∧ r < 1440) ∧ (∀ x, x ∈ fl t → fI e (A x) 8 = fI c (A x) 8 ∧ fI e (A x) 9 = fI c (A x) 9 ∧ fI e (A x) 10 = fI c (A x) 10) ∧ fI e 65 4 = fI c 65 4 ∧ ∀ k, k < fI c 65 5 → aI e 66 k = aI c 66 k ∧ aI e 67 k = aI c 67 k ∧ aI e 68 k = aI c 68 k ∧ aI e 69 k = aI c 69 k
theorem bnd_tr {c : SC} {s : SM} {t : Term} {n : Nat} (hS : SHT s t) : ∀ (m : Nat) (y x : Int), y ∈ fl t → bnd ((trX c s n).2 9) ((trX c s n).2 10) ((trX c s n).2 12) ((trX c s n).2 13) m y x = bnd (s.2 9) (s.2 10) (s.2 12) (s.2 13) m y x := by
  have lt : ∀ x, x ∈ fl t → x < 3000 := fun x hx => by have := hS.m x hx; have := hS.2.2.2.2.1; omega
  intro m
  induction m with
  | zero => intro y x _; rfl
  | succ m ih =>
    intro y x hy
    unfold bnd
    rw [trX_o (lt y hy) (by decide : (12 : Nat) ≠ 14), trX_o (lt y hy) (by decide : (13 : Nat) ≠ 14)]
    by_cases e : s.2 12 y = -9
    · rw [if_pos e, if_pos e]
    · have hu := hS.up9 hy (fun w => e (by rw [w]; exact hS.2.2.2.2.2.2.1))
      rw [if_neg e, if_neg e, trX_o (lt _ hu) (by decide : (9 : Nat) ≠ 14), trX_o (lt _ hu) (by decide : (10 : Nat) ≠ 14), ih _ x hu]
theorem DP_tr {c : SC} {s : SM} {t : Term} {n : Nat} (hS : SHT s t) : ∀ (m : Nat) (y : Int), y ∈ fl t → DP (s.2 12) m y → DP ((trX c s n).2 12) m y := by
  have lt : ∀ x, x ∈ fl t → x < 3000 := fun x hx => by have := hS.m x hx; have := hS.2.2.2.2.1; omega
  intro m
  induction m with
  | zero => intro y _ h; exact h
  | succ m ih =>
    intro y hy h
    unfold DP at h ⊢
    rw [trX_o (lt y hy) (by decide : (12 : Nat) ≠ 14)]
    rcases h with h | h
    · exact Or.inl h
    · right
      have hu := hS.up9 hy (fun w => by have := hS.2.2.2.2.2.2.1; rw [← w] at this; omega)
      exact ⟨h.1, ih _ hu h.2⟩
section
variable {iv : List (Int × Int)} {L : Nat} {h0 : MH} {A A' : Int → Nat} {c e : SC} {s s' w : SM} {t : Term} {d : Nat} {ys : List (Nat × Nat)} {rs : List Nat}
theorem trj_ok {n : Nat} {F : Int → SC → Prop} (h1 : R1 A c s t) (hT : AFT s t) (hK : KIs s) (hTR : TRc c) (hn : 1 ≤ n ∧ n < 16) (h5 : fR c (tra n) 5 = fR c (A (s.1 16)) 5) (h6 : fI c (tra n) 6 = fI c (A (s.1 16)) 6) (hD : 80 ≤ d) (hF : ∀ r e, TRK A c e t r → F r e) : ck iv L h0 d 165 [vr 175, vr (tra n), vi (fI c (A (s.1 16)) 8), vi 0] c (qi F) := by
  obtain ⟨hS, hB, hc⟩ := hT
  have hX := h1.1.1
  have hI := h1.2.2.1
  obtain ⟨j1, j2, j3⟩ := h1.2.2.2
  have lt : ∀ x, x ∈ fl t → x < 3000 ∧ 0 ≤ x := fun x hx => by have := hS.m x hx; have := hS.2.2.2.2.1; omega
  obtain ⟨⟨r1, r2, r3, r4, r5, r6, r7⟩, rp⟩ := hTR n hn.1 hn.2
  have hpo := pO_in n
  have hn3 := hK.1
  have hJS := tr_js h1 hS hc hTR hn h5 h6
  have hv : VJ (trA A n) (fun x => x ∈ fl t ∨ x ∈ fl (trT n)) (fun _ => none) c (mx (trA A n) c (trX c s n)) := ⟨hX, hJS, fun b _ => ⟨rfl, rfl, rfl⟩, ⟨rfl, rfl⟩, rfl, rfl, rfl, rfl⟩
  have x0 := trX_n (c := c) (s := s) (n := n) (b := 3000) (by decide)
  have hAT := AT_tr (so := (trX c s n).2 9) (pa := (trX c s n).2 14) (up := (trX c s n).2 12) (pl := (trX c s n).2 13) hn.2 (by rw [x0.1, if_pos rfl]) (fun b b0 b1 => by
    obtain ⟨x9, x10, x11, x12, x13⟩ := trX_n (c := c) (s := s) (n := n) (b := b) ⟨by omega, b1⟩
    rw [if_neg (by omega)] at x9 x12 x13
    exact ⟨x9, x12, x13, trX_p ⟨b0, b1⟩⟩)
  obtain ⟨t1, t2, t3, t4⟩ := hAT
  have hup : s.2 12 (s.1 16) = -9 ∨ s.2 12 (s.1 16) ∈ fl t := by
    by_cases w : s.1 16 = hd t
    · left; rw [w]; exact hS.2.2.2.2.2.2.1
    · right; exact hS.up9 hc w
  have e12 : (trX c s n).2 12 3000 = s.2 12 (s.1 16) := by rw [x0.2.2.2.1, if_pos rfl]
  have e13 : (trX c s n).2 13 3000 = s.2 13 (s.1 16) := by rw [x0.2.2.2.2, if_pos rfl]
  have dp0 : DP ((trX c s n).2 12) 61 3000 := by
    have := DP_tree hS _ hc
    unfold DP at this ⊢
    rw [e12]
    rcases this with q | q
    · exact Or.inl q
    · right
      have hu : s.2 12 (s.1 16) ∈ fl t := hup.resolve_left (fun w => by omega)
      exact ⟨q.1, DP_tr hS _ _ hu q.2⟩
  have hPT : PRT (mx (trA A n) c (trX c s n)) (trT n) := by
    refine ⟨t1, t2, t3, fun x hx q => ?_, fun x hx => ?_⟩
    · have m := trT_mem hx
      obtain ⟨x9, x10, x11, x12, x13⟩ := trX_n (c := c) (s := s) (n := n) (b := x) ⟨by omega, by omega⟩
      have q : (trX c s n).2 9 x = 8 ∨ (trX c s n).2 9 x = 15 := q
      show 0 ≤ (trX c s n).2 11 x ∧ (trX c s n).2 11 x < fI c 65 4
      rw [x9] at q
      by_cases w : x = 3000
      · rw [if_pos w] at q
        have ez : tra n + 2 * ((3000 : Int) - 3000).toNat = tra n := by simp
        rw [w] at x11
        rw [ez] at x11
        rw [w, x11, r7 (by omega), hI.1]
        omega
      · rw [if_neg w] at q
        omega
    · have m := trT_mem hx
      obtain ⟨x9, x10, x11, x12, x13⟩ := trX_n (c := c) (s := s) (n := n) (b := x) ⟨by omega, by omega⟩
      by_cases w : x = 3000
      · rw [w]
        exact DP_up 61 70 _ (by decide) dp0
      · rw [if_neg w] at x12
        refine DP_up 62 70 _ (by decide) ?_
        show (trX c s n).2 12 x = -9 ∨ ((0 ≤ (trX c s n).2 12 x ∧ (trX c s n).2 12 x < 3004) ∧ DP ((trX c s n).2 12) 61 ((trX c s n).2 12 x))
        right
        rw [x12]
        exact ⟨by decide, dp0⟩
  have ebd : ∀ x, bds (mx (trA A n) c (trX c s n)) 3000 x = bnd (s.2 9) (s.2 10) (s.2 12) (s.2 13) 70 (s.1 16) x := fun x => by
    show bnd ((trX c s n).2 9) ((trX c s n).2 10) ((trX c s n).2 12) ((trX c s n).2 13) (69 + 1) 3000 x = bnd (s.2 9) (s.2 10) (s.2 12) (s.2 13) (69 + 1) (s.1 16) x
    unfold bnd
    rw [e12, e13]
    by_cases w : s.2 12 (s.1 16) = -9
    · rw [if_pos w, if_pos w]
    · have hu := hup.resolve_left w
      rw [if_neg w, if_neg w, trX_o (lt _ hu).1 (by decide : (9 : Nat) ≠ 14), trX_o (lt _ hu).1 (by decide : (10 : Nat) ≠ 14), bnd_tr hS 69 _ x hu]
  have hPJ : PRJ (mx (trA A n) c (trX c s n)) (hd (trT n)) (fl (trT n)) (jdg s t) (fun x => x ∈ fl t) := by
    refine ⟨j1, fun x => ?_, fun x hx => ?_, fun x hx w => ?_⟩
    · rw [t4, ebd]
      rcases bnd_mem hS.w (nu := s.2 10) 70 (s.1 16) x hc with q | ⟨q1, q2⟩
      · exact Or.inl q
      · right
        generalize bnd (s.2 9) (s.2 10) (s.2 12) (s.2 13) 70 (s.1 16) x = u at q1 q2
        have hul := lt u q1
        refine ⟨by omega, ?_⟩
        have o9 : (mx (trA A n) c (trX c s n)).2 9 u = s.2 9 u := (trX_o (c := c) (s := s) (n := n) hul.1 (by decide : (9 : Nat) ≠ 14))
        have o11 : (mx (trA A n) c (trX c s n)).2 11 u = s.2 11 u := (trX_o (c := c) (s := s) (n := n) hul.1 (by decide : (11 : Nat) ≠ 14))
        have o14 : (mx (trA A n) c (trX c s n)).2 14 (3 * u) = s.2 14 (3 * u) := (trX_14 (c := c) (s := s) (n := n) (by omega))
        have o2 : (mx (trA A n) c (trX c s n)).1 2 = fI c 65 4 := rfl
        rw [o9, o11, o14, o2, hI.1]
        rcases q2 with q2 | q2
        · left
          have := (hB u (hS.m u q1).1 (hS.m u q1).2).2.2.2 (Or.inl q2)
          exact ⟨q2, this⟩
        · right
          have p10 : 0 < pO 10 := by decide
          have hk := ((AT_mem t hS.1 u q1).2.2.1 0 (Int.le_refl 0) (by rw [q2]; exact p10) (fun w => by have := hS.2.1; unfold full at this; rw [this, ← w, q2]; exact p10)).1
          rw [Int.add_zero] at hk
          have := lt _ hk
          exact ⟨q2, hk, by omega, by omega⟩
    · obtain ⟨⟨g1, g2⟩, g3, g4⟩ := j3 x hx
      have o19 : (mx (trA A n) c (trX c s n)).2 19 x = fI c (A x) 9 := by show fI c (trA A n x) 9 = _; rw [trA_o (lt x hx).1]
      have o20 : (mx (trA A n) c (trX c s n)).2 20 x = fI c (A x) 8 := by show fI c (trA A n x) 8 = _; rw [trA_o (lt x hx).1]
      have o21 : (mx (trA A n) c (trX c s n)).2 21 x = fI c (A x) 10 := by show fI c (trA A n x) 10 = _; rw [trA_o (lt x hx).1]
      rw [o19, o20, o21]
      exact ⟨⟨g1, g2⟩, g3, g4⟩
    · have := trT_mem w
      have := lt x hx
      omega
  have hla : (fl (trT n)).length ≤ 4 := by
    unfold trT
    rw [adds_len]
    have : (fl (Term.index 3000)).length = 1 := rfl
    omega
  have hdp := dpt_len _ t1
  have hak : aK (mx (trA A n) c (trX c s n)) (fI c (A (s.1 16)) 8) ((jdg s t).2.1 (s.1 16)) := (j3 _ hc).2.1
  have h3 : (mx (trA A n) c (trX c s n)).1 3 = fI c 65 5 := rfl
  have spec := jsp_alld (iv := iv) (L := L) (h0 := h0) (Ad := trA A n) (Tn := fun x => x ∈ fl t ∨ x ∈ fl (trT n)) (dpt (trT n)) (fun _ => none) (trT n) (mx (trA A n) c (trX c s n)) (fI c (A (s.1 16)) 8) ((jdg s t).2.1 (s.1 16)) (jdg s t) (fun x => x ∈ fl t) (Nat.le_refl _) hPT hPJ hak (by rw [h3]; omega) ⟨fun _ q => Or.inr q, fun x q => absurd rfl q⟩
  have eA : trA A n (hd (trT n)) = tra n := by rw [t4]; unfold trA; rw [if_pos (by decide)]; simp
  have spec2 := spec c 0 hv (Int.le_refl _) (by omega)
  have tg : (tgM (trA A n) 88 [vr 307, vi (hd (trT n)), vi (fI c (A (s.1 16)) 8)] 0) = (165, [vr 175, vr (tra n), vi (fI c (A (s.1 16)) 8), vi 0]) := by
    show (165, [vr 175, vr (trA A n (hd (trT n))), vi (fI c (A (s.1 16)) 8), vi 0]) = _
    rw [eA]
  rw [tg] at spec2
  refine inQ spec2 (by omega) ?_
  rintro r e w hvw hxw ⟨p1, p2, ⟨p3, -⟩, p4⟩
  obtain ⟨hXe, -, hJe, ⟨g1, g2⟩, g4, g5, g6, g7⟩ := hvw
  have hlt := p3.lt p1.2.1.1.1.2 p1.2.1.2.1
  have hw3 : w.1 3 ≤ 1320 := by rw [h3] at p2; omega
  refine hF r e ⟨hxw, by omega, fun x hx => ?_, ?_, fun k hk => ?_⟩
  · obtain ⟨a1, a2, a3⟩ := hJe x (Or.inl hx)
    obtain ⟨b1, b2, b3⟩ := p1.2.2.2 x (fun w' => by have := trT_mem w'; have := lt x hx; omega)
    rw [trA_o (lt x hx).1] at a1 a2 a3
    have o19 : (mx (trA A n) c (trX c s n)).2 19 x = fI c (A x) 9 := by show fI c (trA A n x) 9 = _; rw [trA_o (lt x hx).1]
    have o20 : (mx (trA A n) c (trX c s n)).2 20 x = fI c (A x) 8 := by show fI c (trA A n x) 8 = _; rw [trA_o (lt x hx).1]
    have o21 : (mx (trA A n) c (trX c s n)).2 21 x = fI c (A x) 10 := by show fI c (trA A n x) 10 = _; rw [trA_o (lt x hx).1]
    have a3 : fI e (A x) 10 = w.2 21 x := a3
    rw [a1, a2, a3, b1, b2, b3, o19, o20, o21]
    exact ⟨rfl, rfl, rfl⟩
  · exact g1.trans (p1.1.1 2 (by decide))
  · rw [g4, g5, g6, g7]
    exact p1.2.2.1.2.2 k (by rw [h3]; exact hk)
end
end
section
/-! offers() by the desk: safe, and all stays. -/
section
variable {iv : List (Int × Int)} {L : Nat} {h0 : MH} {A A' : Int → Nat} {c e : SC} {s s' w : SM} {t : Term} {d : Nat} {ys : List (Nat × Nat)} {rs : List Nat}
theorem R1_tr (h : R1 A c s t) (hS : SHT s t) (hK : KIs s) (hx : CX trY trR c e) (hf : ∀ x, x ∈ fl t → fI e (A x) 8 = fI c (A x) 8 ∧ fI e (A x) 9 = fI c (A x) 9 ∧ fI e (A x) 10 = fI c (A x) 10) (h4 : fI e 65 4 = fI c 65 4) (h5 : fI e 65 5 = fI c 65 5) (hk : ∀ k, k < fI c 65 5 → aI e 66 k = aI c 66 k ∧ aI e 67 k = aI c 67 k ∧ aI e 68 k = aI c 68 k ∧ aI e 69 k = aI c 69 k) : R1 A e s t := by
  obtain ⟨⟨hX, hN, hH, hL⟩, ⟨hc, h8⟩, hI, hJ1, hJ2, hJ3⟩ := h
  have h3 := hX.2.2.1
  have hkd := hX.dk
  have hn := hK.1
  have hm : 40 ≤ fI c 65 5 := hJ1.2.1
  have hke : kext (mx A c s) (mx A e s) := ⟨h4.symm, by show fI c 65 5 ≤ fI e 65 5; rw [h5]; exact Int.le_refl _, fun k hk' => hk k hk'⟩
  have hvk : ∀ k, vkc c k → vkc e k ∧ ktc e k = ktc c k := fun k hk' => ⟨by unfold vkc at hk' ⊢; rw [h4, h5]; exact hk', kext_kt (s := mx A c s) (t := mx A e s) hke hJ1 hk'⟩
  refine ⟨⟨hX.x hx (by decide) (by decide), hN.x hx (by decide) (by decide) (by decide) (by decide) (by decide), hH.x hN hS.m hX hx (by decide) (by decide) (by decide) (by decide), hL.x hN hS.m hX hx (by decide) (by decide) (by decide)⟩, ⟨?_, ?_⟩, ⟨h4.trans hI.1, fun k k0 kn => ?_⟩, ?_, by rw [h5]; exact hJ2, fun x hx' => ?_⟩
  · rw [hx.r (a := 70) (by omega) (by rw [hkd.2.1]; decide)]; exact hc
  · rw [hx.i (a := 70) (by omega) (by rw [hkd.2.1]; decide)]; exact h8
  · obtain ⟨e1, e2, e3, e4⟩ := hk k (by omega)
    rw [e1, e2, e3, e4]
    exact hI.2 k k0 kn
  · unfold KJc
    rw [h4, h5]
    exact KJ_lt hJ1 hk
  · obtain ⟨⟨g1, g2⟩, g3, g4⟩ := hJ3 x hx'
    obtain ⟨f8, f9, f10⟩ := hf x hx'
    rw [f8, f9, f10]
    refine ⟨⟨(hvk _ g1).1, (hvk _ g1).2.trans g2⟩, ?_, g4⟩
    unfold aKc at g3 ⊢
    cases hA : (jdg s t).2.1 x with
    | none => rw [hA] at g3; exact g3
    | some T => rw [hA] at g3; exact ⟨(hvk _ g3.1).1, (hvk _ g3.1).2.trans g3.2⟩
theorem tra_ne : ∀ m : Nat, m < 16 → ∀ i : Nat, i < 3 → ∀ n : Nat, n < 16 → (i : Int) < pO m → 1 ≤ n → tra m + 2 + 2 * i ≠ tra n := by
  have h : (List.range 16).all (fun m => (List.range 3).all (fun i => (List.range 16).all (fun n => decide (¬ ((i : Int) < pO m ∧ 1 ≤ n ∧ tra m + 2 + 2 * i = tra n))))) = true := by decide +kernel
  intro m m16 i i3 n n16 hi n1 e
  have h1 := List.all_eq_true.mp (List.all_eq_true.mp (List.all_eq_true.mp h m (List.mem_range.mpr m16)) i (List.mem_range.mpr i3)) n (List.mem_range.mpr n16)
  exact (of_decide_eq_true h1) ⟨hi, n1, e⟩
/-- trials stay -/
theorem TRc.up (h : TRc c) (hX : FIX c) (hx : CX ys rs c e) (hy : (25, 1) ∉ ys ∧ (25, 2) ∉ ys ∧ (25, 3) ∉ ys) (hr : ∀ a, a ∈ rs → a < 194 ∨ (194 < a ∧ a < 235) ∨ 307 ≤ a) (hp : ∀ m i : Nat, 1 ≤ m → m < 16 → (i : Int) < pO m → fR e (tra m + 2 + 2 * i) 5 = fR c (tra m + 2 + 2 * i) 5 ∧ fI e (tra m + 2 + 2 * i) 6 = fI c (tra m + 2 + 2 * i) 6) : TRc e := by
  intro n n1 n16
  obtain ⟨⟨r1, r2, r3, r4, r5, r6, r7⟩, rp⟩ := h n n1 n16
  obtain ⟨z1, z2⟩ := tra_in n n16
  have z1 := z1 (by omega)
  have hpo := pO_in n
  have h3 := hX.2.2.1
  have row : ∀ a, 235 ≤ a → a < 307 → aR e a = aR c a := fun a a0 a1 => hx.ar (by omega) (by unfold rk; rw [if_pos (by omega)]; intro w; have := hr a w; omega)
  have row4 : aR e 194 = aR c 194 := hx.ar (by omega) (by unfold rk; rw [if_pos (by omega)]; intro w; have := hr 194 w; omega)
  have key : ∀ a, 235 ≤ a → a < 307 → ky a (kl c a) = 25 := fun a a0 a1 => by unfold ky; rw [if_pos ⟨a0, a1⟩]
  have f1 : ∀ a, 235 ≤ a → a < 307 → fI e a 1 = fI c a 1 ∧ fI e a 2 = fI c a 2 ∧ fR e a 3 = fR c a 3 ∧ kl e a = kl c a ∧ le e a = le c a := fun a a0 a1 => ⟨hx.i (by omega) (by rw [key a a0 a1]; exact hy.1), hx.i (by omega) (by rw [key a a0 a1]; exact hy.2.1), hx.r (by omega) (by rw [key a a0 a1]; exact hy.2.2), hx.k (by omega), hx.l (by omega)⟩
  obtain ⟨q1, q2, q3, q4, q5⟩ := f1 (tra n) z1 (by omega)
  obtain ⟨-, -, -, q6, q7⟩ := f1 (tra n + 1) (by omega) (by omega)
  refine ⟨⟨by rw [row4]; exact r1, by rw [q4]; exact r2, by rw [q6]; exact r3, by rw [q7]; exact r4, by rw [q1]; exact r5, by rw [q3]; exact r6, fun w => by rw [q2]; exact r7 w⟩, fun i hi => ?_⟩
  obtain ⟨s1, s2, s3, s4, s5, s6, s7, s8⟩ := rp i hi
  obtain ⟨g1, g2, g3, g4, g5⟩ := f1 (tra n + 2 + 2 * i) (by omega) (by omega)
  obtain ⟨-, -, -, g6, g7⟩ := f1 (tra n + 2 + 2 * i + 1) (by omega) (by omega)
  obtain ⟨p5, p6⟩ := hp n i n1 n16 hi
  exact ⟨by rw [row _ (by omega) (by omega)]; exact s1, by rw [g4]; exact s2, by rw [g6]; exact s3, by rw [g7]; exact s4, by rw [g1]; exact s5, by rw [g3]; exact s6, by rw [p5]; exact s7, by rw [p6]; exact s8⟩
/-- what stays while trials are judged -/
def OFI (A : Int → Nat) (c0 c : SC) (s : SM) (t : Term) : Prop := R1 A c s t ∧ TRc c ∧ CX trY trR c0 c ∧ RMk 0 0 c0 c
theorem trial_c {c0 : SC} {n : Nat} {F : Int → SC → Prop} (h : OFI A c0 c s t) (hT : AFT s t) (hK : KIs s) (hn : 1 ≤ n ∧ n < 16) (hD : 82 ≤ d) (hF : ∀ r e, (r = 0 ∨ r = 1) → OFI A c0 e s t → F r e) : ck iv L h0 d 164 [vr 175, vr (tra n), vr (A (s.1 16))] c (qi F) := by
  obtain ⟨d, rfl⟩ : ∃ k, d = k + 1 := ⟨d - 1, by omega⟩
  obtain ⟨h1, hTR, hx0, hr0⟩ := h
  have hS := hT.1
  have hX := h1.1.1
  have hk : kl c 175 = 3 ∧ kl c 65 = 4 ∧ fR c 175 0 = 65 ∧ fR c 65 0 = 66 ∧ kl c 66 = 100 ∧ le c 66 = 1440 := by simp only [hX.1]; exact ⟨trivial, trivial, trivial, trivial, trivial, trivial⟩
  obtain ⟨⟨r1, r2, r3, r4, r5, r6, r7⟩, rp⟩ := hTR n hn.1 hn.2
  obtain ⟨z1, z2⟩ := tra_in n hn.2
  have z1 := z1 (by omega)
  have hpo := pO_in n
  have hcb := hS.m _ hT.2.2
  have h3 := hX.2.2.1
  obtain ⟨⟨n1, n2, n3, n4, n5, n6, n7, n8⟩, n9, n10⟩ := h1.1.2.1.2 _ hcb.1 hcb.2
  have key : ky (tra n) (kl c (tra n)) = 25 := by unfold ky; rw [if_pos ⟨z1, by omega⟩]
  generalize hc1 : uI (uR c (tra n) 5 (fR c (A (s.1 16)) 5)) (tra n) 6 (fI c (A (s.1 16)) 6) = c1
  have hx1 : CX trY trR c c1 := by
    rw [← hc1]
    exact (CX.rf.uR (fun _ => by rw [key]; decide)).uI (fun _ => by rw [kl_uR, key]; decide)
  have fo : ∀ a y, a ≠ tra n → fI c1 a y = fI c a y ∧ fR c1 a y = fR c a y := fun a y ha => by
    rw [← hc1]
    exact ⟨by rw [fI_uI, if_neg (fun w => ha w.2), fI_uR], by rw [fR_uI, fR_uR, if_neg (fun w => ha w.2)]⟩
  have hne : ∀ x, x ∈ fl t → A x ≠ tra n := fun x hx w => by
    have := (h1.1.2.1.2 x (hS.m x hx).1 (hS.m x hx).2).2.2
    omega
  have ai1 : ∀ a, aI c1 a = aI c a := fun a => by rw [← hc1, aI_uI, aI_uR]
  have h11 : R1 A c1 s t := R1_tr h1 hS hK hx1 (fun x hx => ⟨(fo _ 8 (hne x hx)).1, (fo _ 9 (hne x hx)).1, (fo _ 10 (hne x hx)).1⟩) (fo 65 4 (by omega)).1 (fo 65 5 (by omega)).1 (fun k _ => by rw [ai1, ai1, ai1, ai1]; exact ⟨rfl, rfl, rfl, rfl⟩)
  have hTR1 : TRc c1 := hTR.up hX hx1 (by decide) (by decide) (fun m i m1 m16 hi => by
    have hpm := pO_in m
    have := tra_ne m m16 i (by omega) n hn.2 hi hn.1
    exact ⟨(fo _ 5 this).2, (fo _ 6 this).1⟩)
  have hcur := hne _ hT.2.2
  have e5 : fR c1 (tra n) 5 = fR c1 (A (s.1 16)) 5 := by rw [(fo _ 5 hcur).2, ← hc1, fR_uI, fR_uR, if_pos ⟨rfl, rfl⟩]
  have e6 : fI c1 (tra n) 6 = fI c1 (A (s.1 16)) 6 := by rw [(fo _ 6 hcur).1, ← hc1, fI_uI, if_pos ⟨rfl, rfl⟩]
  have e8 : fI c1 (A (s.1 16)) 8 = fI c (A (s.1 16)) 8 := (fo _ 8 hcur).1
  refine C164 ⟨hk.1, by rw [hk.2.2.1]; exact hk.2.1, n1, r2, ?_⟩
  rw [hc1, hk.2.2.1, ← e8]
  refine trj_ok h11 hT hK hTR1 hn e5 e6 (by omega) (fun r e he => ?_)
  obtain ⟨⟨he1, he2⟩, he3, he4, he5, he6⟩ := he
  have hX1 := h11.1.1
  have hXe : FIX e := hX1.x he1 (by decide) (by decide)
  have hke : kl e 175 = 3 ∧ kl e 65 = 4 ∧ fR e 175 0 = 65 ∧ fR e 65 0 = 66 ∧ kl e 66 = 100 ∧ le e 66 = 1440 := by simp only [hXe.1]; exact ⟨trivial, trivial, trivial, trivial, trivial, trivial⟩
  have hn1 : nxt c ≤ nxt c1 := hx1.n
  have kle : ∀ a, a < nxt c → kl e a = kl c a := fun a ha => (he1.k (by omega)).trans (hx1.k ha)
  have hx2 : CX trY trR c1 (uI e 65 5 (fI c 65 5)) := (he1.up (by decide) (by decide)).uI (fun _ => by rw [hke.2.1]; decide)
  have f65 : fI c1 65 5 = fI c 65 5 := (fo 65 5 (by omega)).1
  have hR : R1 A (uI e 65 5 (fI c 65 5)) s t := R1_tr h11 hS hK hx2 (fun x hx => by
    have hA := (h11.1.2.1.2 x (hS.m x hx).1 (hS.m x hx).2).2.2
    rw [fI_uI, if_neg (by omega), fI_uI, if_neg (by omega), fI_uI, if_neg (by omega)]
    exact he4 x hx) (by rw [fI_uI, if_neg (by omega)]; exact he5) (by rw [fI_uI, if_pos ⟨rfl, rfl⟩, f65]) (fun k hk' => he6 k hk')
  have hTRe : TRc (uI e 65 5 (fI c 65 5)) := hTR1.up hX1 hx2 (by decide) (by decide) (fun m i m1 m16 hi => by
    obtain ⟨y1, y2⟩ := tra_in m m16
    have y1 := y1 (by omega)
    have kk : ky (tra m + 2 + 2 * i) (kl c1 (tra m + 2 + 2 * i)) = 25 := by unfold ky; rw [if_pos (by omega)]
    rw [fR_uI, fI_uI, if_neg (by omega)]
    exact ⟨he1.r (by omega) (by rw [kk]; decide), he1.i (by omega) (by rw [kk]; decide)⟩)
  have hO : OFI A c0 (uI e 65 5 (fI c 65 5)) s t := ⟨hR, hTRe, hx0.tr (hx1.tr hx2), by
    have hr1 : RMk 0 0 c c1 := by rw [← hc1]; exact RMk.rf
    exact (hr0.tr hr1).tr he2⟩
  have hkcur : kl e (A (s.1 16)) = 5 := by rw [kle _ (by omega)]; exact n1
  have hktr : kl e (tra n) = 5 := by rw [kle _ (by omega)]; exact r2
  have fin : ∀ v : Int, (v = 0 ∨ v = 1) → F v (uI e 65 5 (fI c 65 5)) := fun v hv => hF v _ hv hO
  have fR5 : fR e (A (s.1 16)) 5 = A (s.2 12 (s.1 16)) := by
    have := (hR.1.2.2.1.1 _ hT.2.2).1
    rw [fR_uI] at this
    exact this
  rw [hke.2.2.1]
  refine ⟨hkcur, fun _ => ⟨hke.1, hke.2.1, hktr, fun _ => fin 0 (Or.inl rfl), fun _ => fin 1 (Or.inr rfl)⟩, fun q => ⟨fun _ => ⟨hke.1, hke.2.1, hktr, fun _ => fin 0 (Or.inl rfl), fun _ => fin 1 (Or.inr rfl)⟩, fun _ => ⟨?_, hke.1, ?_⟩⟩⟩
  · rw [fR5] at q ⊢
    have hu : 0 ≤ s.2 12 (s.1 16) ∧ s.2 12 (s.1 16) < s.1 8 := Classical.byContradiction fun w => q (h1.1.2.1.1 _ w)
    have hu2 := h1.1.2.1.2 _ hu.1 hu.2
    rw [kle _ (by omega)]
    exact hu2.1.1
  · have fin2 : ∀ v : Int, ((v = 0 → (kl e 175 = 3) ∧ (kl e (fR e 175 0) = 4) ∧ (kl e (tra n) = 5) ∧ ((fI e (tra n) 10 ≠ 0 → F 0 (uI e (fR e 175 0) 5 (fI c 65 5))) ∧ (fI e (tra n) 10 = 0 → F 1 (uI e (fR e 175 0) 5 (fI c 65 5))))) ∧ (v ≠ 0 → (kl e 175 = 3) ∧ (kl e (fR e 175 0) = 4) ∧ (kl e (tra n) = 5) ∧ ((fI e (tra n) 10 ≠ 0 → F 0 (uI e (fR e 175 0) 5 (fI c 65 5))) ∧ (fI e (tra n) 10 = 0 → F 0 (uI e (fR e 175 0) 5 (fI c 65 5)))))) := fun v => by
      rw [hke.2.2.1]
      exact ⟨fun _ => ⟨hke.1, hke.2.1, hktr, fun _ => fin 0 (Or.inl rfl), fun _ => fin 1 (Or.inr rfl)⟩, fun _ => ⟨hke.1, hke.2.1, hktr, fun _ => fin 0 (Or.inl rfl), fun _ => fin 0 (Or.inl rfl)⟩⟩
    refine C173 ⟨hke.1, by rw [hke.2.2.1]; exact hke.2.1, ?_⟩
    rw [hke.2.2.1, hke.2.2.2.1, hke.2.2.2.2.1, hke.2.2.2.2.2]
    rw [hke.2.2.1] at fin2
    exact ⟨rfl, he3, fun _ => ⟨fun _ => ⟨fun _ => fin2 0, fun _ => ⟨fun _ => fin2 3, fun _ => fin2 0⟩⟩, fun _ => ⟨fun _ => fin2 0, fun _ => ⟨fun _ => fin2 0, fun _ => ⟨fun _ => fin2 3, fun _ => fin2 0⟩⟩⟩⟩, fun _ => ⟨fun _ => fin2 0, fun _ => ⟨fun _ => fin2 2, fun _ => fin2 0⟩⟩⟩
end
end
section
/-! offers() and offer() by the desk. -/
section
variable {iv : List (Int × Int)} {L : Nat} {h0 : MH} {A A' : Int → Nat} {c c0 e : SC} {s s' w : SM} {t : Term} {d : Nat} {ys : List (Nat × Nat)} {rs : List Nat}
theorem FIX.of (h : FIX c) : kl c 64 = 1 ∧ fR c 64 1 = 70 ∧ kl c 70 = 8 ∧ (fR c 64 2 = 175 ∧ kl c 175 = 3) ∧ (fR c 64 7 = 194 ∧ kl c 194 = 103 ∧ le c 194 = 16) ∧ (fR c 64 8 = 195 ∧ kl c 195 = 100 ∧ le c 195 = 42) ∧ fR c 64 9 = 196 ∧ kl c 196 = 100 ∧ le c 196 = 42 := by
  simp only [h.1]
  exact ⟨trivial, trivial, trivial, ⟨trivial, trivial⟩, ⟨trivial, trivial, trivial⟩, ⟨trivial, trivial, trivial⟩, trivial, trivial, trivial⟩
theorem OFI.nm {z : Int} (h : OFI A c0 c s t) (hS : SHT s t) (hK : KIs s) : OFI A c0 (uI c (tra 3) 4 z) s t := by
  obtain ⟨h1, hT, hx, hr⟩ := h
  have e3 : 235 ≤ tra 3 ∧ tra 3 < 307 := by decide
  have hx1 : CX trY trR c (uI c (tra 3) 4 z) := CX.rf.uI (fun _ => by unfold ky; rw [if_pos e3]; decide)
  refine ⟨R1_tr h1 hS hK hx1 (fun x _ => ?_) ?_ ?_ (fun k _ => ⟨rfl, rfl, rfl, rfl⟩), hT.up h1.1.1 hx1 (by decide) (by decide) (fun m i m1 m16 hi => ?_), hx.tr hx1, hr⟩
  · rw [fI_uI, if_neg (by omega), fI_uI, if_neg (by omega), fI_uI, if_neg (by omega)]; exact ⟨rfl, rfl, rfl⟩
  · rw [fI_uI, if_neg (by omega)]
  · rw [fI_uI, if_neg (by omega)]
  · rw [fR_uI, fI_uI, if_neg (by omega)]; exact ⟨rfl, rfl⟩
theorem OFI.row {a : Nat} {i z : Int} (h : OFI A c0 c s t) (hS : SHT s t) (hK : KIs s) (ha : a = 195 ∨ a = 196) : OFI A c0 (uA c a i z) s t := by
  obtain ⟨h1, hT, hx, hr⟩ := h
  have hx1 : CX trY trR c (uA c a i z) := CX.rf.uA (fun _ => by unfold rk; rw [if_pos (by omega)]; rcases ha with rfl | rfl <;> decide)
  refine ⟨R1_tr h1 hS hK hx1 (fun x _ => ⟨rfl, rfl, rfl⟩) rfl rfl (fun k _ => ?_), hT.up h1.1.1 hx1 (by decide) (by decide) (fun m i m1 m16 hi => ⟨rfl, rfl⟩), hx.tr hx1, hr⟩
  rw [aI_uA, if_neg (by omega), aI_uA, if_neg (by omega), aI_uA, if_neg (by omega), aI_uA, if_neg (by omega)]
  exact ⟨rfl, rfl, rfl, rfl⟩
theorem offer_c {n : Nat} {a1 a3 : Int} {F : Int → SC → Prop} (h : OFI A c0 c s t) (hT : AFT s t) (hK : KIs s) (hn : 1 ≤ n ∧ n < 16) (ha : 0 ≤ a1 ∧ a1 < 42) (hD : 83 ≤ d) (hF : ∀ r e, (r = a1 ∨ r = a1 + 1) → OFI A c0 e s t → F r e) : ck iv L h0 d 58 [vr 64, vi a1, vi n, vi a3] c (qi F) := by
  obtain ⟨d, rfl⟩ : ∃ k, d = k + 1 := ⟨d - 1, by omega⟩
  have h1 := h.1
  have hcur := h1.2.1.1
  obtain ⟨k1, k2, k3, ⟨k4, k5⟩, ⟨k6, k7, k8⟩, -⟩ := h1.1.1.of
  have ht := (h.2.1 n hn.1 hn.2).1.1
  refine C58 ?_
  rw [k2, k4, k6, ht, hcur]
  refine ⟨k1, k7, by rw [k8]; omega, k3, k5, trial_c h hT hK hn (by omega) (fun r e hr he => ⟨fun q => ?_, fun q => hF _ e (Or.inl rfl) he⟩)⟩
  obtain ⟨-, -, -, -, -, ⟨j1, j2, j3⟩, j4, j5, j6⟩ := he.1.1.1.of
  have jk : kl e 64 = 1 := he.1.1.1.dk.1
  rw [j1, j2, j3, j4, j5, j6]
  exact ⟨jk, rfl, by omega, rfl, by omega, by omega, hF _ _ (Or.inr rfl) ((he.row hT.1 hK (Or.inl rfl)).row hT.1 hK (Or.inr rfl))⟩
theorem found_c {F : Int → SC → Prop} (h1 : R1 A c s t) (hTR : TRc c) (hT : AFT s t) (hK : KIs s) (hD : 100 ≤ d) (hF : ∀ r e, (0 ≤ r ∧ r < 42) → OFI A c e s t → F r e) : ck iv L h0 d 57 [vr 64] c (qi F) := by
  obtain ⟨d, rfl⟩ : ∃ k, d = k + 1 := ⟨d - 1, by omega⟩
  have hS := hT.1
  have hc := hT.2.2
  obtain ⟨k1, k2, k3, -⟩ := h1.1.1.of
  have two : ∀ (m : Nat) (f : SC) (x z : Int), OFI A c f s t → 1 ≤ x → x + m = 16 → 0 ≤ z → z ≤ 25 + x → wk iv L h0 (d + 1) 57 55 [lr 64, ln, li z, li x] [] f (qi F) := by
    intro m
    induction m with
    | zero =>
      intro f x z hf x1 xm z0 z1
      exact C57_55 ⟨fun _ => hF z f (by omega) hf, fun q => by omega⟩
    | succ m ih =>
      intro f x z hf x1 xm z0 z1
      refine C57_55 ⟨fun q => by omega, fun _ => ⟨fun q => ⟨by omega, ih f (x + 1) z hf (by omega) (by omega) z0 (by omega)⟩, fun q => ⟨hf.1.1.1.dk.1, ?_⟩⟩⟩
      obtain ⟨n, rfl⟩ : ∃ n : Nat, x = n := ⟨x.toNat, by omega⟩
      exact offer_c hf hT hK ⟨by omega, by omega⟩ ⟨z0, by omega⟩ (by omega) (fun r e hr he => ⟨by omega, ih e _ r he (by omega) (by omega) (by omega) (by omega)⟩)
  have one : ∀ (m : Nat) (f : SC) (x z : Int), OFI A c f s t → 0 ≤ x → x + m = 26 → 0 ≤ z → z ≤ x → wk iv L h0 (d + 1) 57 12 [lr 64, lr (A (s.1 16)), li z, li x] [] f (qi F) := by
    intro m
    induction m with
    | zero =>
      intro f x z hf x0 xm z0 z1
      exact C57_12 ⟨fun _ => two 15 f 1 z hf (by decide) (by decide) z0 (by omega), fun q => by omega⟩
    | succ m ih =>
      intro f x z hf x0 xm z0 z1
      have hJ := js_of hf.1.1.1 hf.1.1.2.1 hf.1.1.2.2.1 hS
      have h9 : A (-9) = 2 := hJ.1.1
      have bin : ∀ G : Nat → SC → Prop, (∀ a, G a f) → ck iv L h0 d 56 [vr (A (s.1 16)), vi x, vr 2, vi (-9)] f (qa G) := fun G hG => by
        have := nb_ok (iv := iv) (L := L) (h0 := h0) (d := d) (nu := s.2 10) (q := -9) (z := -9) (F := G) hJ (Or.inl rfl) (fun y hy => by
          have := hS.m y hy
          rw [if_neg (by omega)]) hc (DP_up 61 70 _ (by decide) (DP_tree hS _ hc)) (x := x) (hG _)
        rw [h9] at this
        exact this
      refine C57_12 ⟨fun q => by omega, fun _ => bin _ (fun a => ⟨fun _ => ⟨by omega, ih f (x + 1) z hf (by omega) (by omega) z0 (by omega)⟩, fun _ => ?_⟩)⟩
      obtain ⟨j1, -, -, -, ⟨j6, j7, j8⟩, -⟩ := hf.1.1.1.of
      obtain ⟨⟨r1, r2, -⟩, -⟩ := hf.2.1 3 (by decide) (by decide)
      have r1 : aR f 194 3 = tra 3 := r1
      rw [j6, j7, j8, r1]
      refine ⟨j1, rfl, by decide, r2, offer_c (n := 3) (hf.nm hS hK) hT hK (by decide) ⟨z0, by omega⟩ (by omega) (fun r e hr he => ⟨by omega, ih e _ r he (by omega) (by omega) (by omega) (by omega)⟩)⟩
  refine C57 ⟨k1, by rw [k2]; exact k3, ?_⟩
  rw [k2, h1.2.1.1]
  exact one 26 c 0 0 ⟨h1, hTR, CX.rf, RMk.rf⟩ (by decide) (by decide) (by decide) (by decide)
theorem offers_c {F : Int → SC → Prop} (h1 : R1 A c s t) (hTR : TRc c) (hT : AFT s t) (hK : KIs s) (hD : 101 ≤ d) (hF : ∀ r e, OFI A c e s t → F r e) : ck iv L h0 d 22 [vr 64] c (qi F) := by
  obtain ⟨d, rfl⟩ : ∃ k, d = k + 1 := ⟨d - 1, by omega⟩
  obtain ⟨⟨d1, d2, d3, d4, d5⟩, e1, e2, -⟩ := h1.cur hT
  refine C22 ?_
  rw [d3, e1]
  exact ⟨d1, d2, e2, fun _ => hF _ c ⟨h1, hTR, CX.rf, RMk.rf⟩, fun _ => found_c h1 hTR hT hK (by omega) (fun r e _ he => hF r e he)⟩
theorem offer2_c {i k : Int} {F : Int → SC → Prop} (h1 : R1 A c s t) (hTR : TRc c) (hT : AFT s t) (hK : KIs s) (hD : 101 ≤ d) (hF : ∀ r e, OFI A c e s t → F r e) : ck iv L h0 d 23 [vr 64, vi i, vi k] c (qi F) := by
  obtain ⟨d, rfl⟩ : ∃ k, d = k + 1 := ⟨d - 1, by omega⟩
  obtain ⟨⟨d1, d2, d3, d4, d5⟩, e1, e2, -⟩ := h1.cur hT
  have h0' : OFI A c c s t := ⟨h1, hTR, CX.rf, RMk.rf⟩
  have fin : ∀ r e, (0 ≤ r ∧ r < 42) → OFI A c e s t → ((i < 0 → F (-9) e) ∧ (0 ≤ i → ((i < r → ((k ≠ 0 → (kl e 64 = 1) ∧ (kl e (fR e 64 9) = 100) ∧ (0 ≤ i ∧ i < le e (fR e 64 9)) ∧ F (aI e (fR e 64 9) i) e) ∧ (k = 0 → (kl e 64 = 1) ∧ (kl e (fR e 64 8) = 100) ∧ (0 ≤ i ∧ i < le e (fR e 64 8)) ∧ F (aI e (fR e 64 8) i) e))) ∧ (r ≤ i → F (-9) e)))) := fun r e hr he => by
    obtain ⟨j1, -, -, -, -, ⟨j2, j3, j4⟩, j5, j6, j7⟩ := he.1.1.1.of
    rw [j2, j3, j4, j5, j6, j7]
    exact ⟨fun _ => hF _ e he, fun _ => ⟨fun _ => ⟨fun _ => ⟨j1, rfl, by omega, hF _ e he⟩, fun _ => ⟨j1, rfl, by omega, hF _ e he⟩⟩, fun _ => hF _ e he⟩⟩
  refine C23 ⟨fun q => ?_, fun q => ⟨fun q1 => ?_, fun _ => hF _ c h0'⟩⟩
  · rw [d3, e1]
    exact ⟨d1, d2, e2, fun _ => found_c h1 hTR hT hK (by omega) fin, fun _ => hF _ c h0'⟩
  · rw [d3, e1]
    exact ⟨d1, d2, e2, fun _ => found_c h1 hTR hT hK (by omega) fin, fun _ => hF _ c h0'⟩
end
end
section
/-! What was told at the time of a work: reasons then. -/
section
variable {iv : List (Int × Int)} {L : Nat} {h0 : MH} {A A' : Int → Nat} {c c0 e : SC} {s s' w : SM} {t : Term} {d : Nat} {ys : List (Nat × Nat)} {rs : List Nat}
theorem thens_c {F : SC → Prop} (h1 : R1 A c s t) (hS : SHT s t) (hF : ∀ e, R1 A e s t → CX [(5, 11)] [] c e → RMk 0 0 c e → (∀ x, x ∈ fl t → fI e (A x) 11 = (jdg s t).2.2 x) → (∀ a y, (y ≠ 11 ∨ ∀ x, x ∈ fl t → a ≠ A x) → fI e a y = fI c a y) → F e) : ck iv L h0 d 217 [vr 70] c (qv F) := by
  have key : ∀ (m p : List Int) (f : SC), fl t = p ++ m → CX [(5, 11)] [] c f → RMk 0 0 c f → (∀ x, x ∈ p → fI f (A x) 11 = (jdg s t).2.2 x) → (∀ a y, (y ≠ 11 ∨ ∀ x, x ∈ fl t → a ≠ A x) → fI f a y = fI c a y) → wk iv L h0 d 217 2 [lr 70, li p.length] [] f (qv F) := by
    intro m
    induction m with
    | nil =>
      intro p f e hx hr hp ho
      have hf : R1 A f s t := h1.x hS hx (by decide) (by decide) (by decide) (fun _ _ w => by cases w)
      obtain ⟨d1, d2, d3, d4⟩ := hf.nil
      rw [List.append_nil] at e
      refine C217_2 ⟨d3, fun _ => hF f hf hx hr (fun x hx' => hp x (by rw [← e]; exact hx')) ho, fun q => ?_⟩
      rw [d4, e] at q
      omega
    | cons x m ih =>
      intro p f e hx hr hp ho
      have hf : R1 A f s t := h1.x hS hx (by decide) (by decide) (by decide) (fun _ _ w => by cases w)
      obtain ⟨⟨d1, d2, d3, d4, d5, d6, d7⟩, o1, o2, o3, o4, o5, o6, o7, o8, o9, o10, o11, o12⟩ := hf.row hS e
      refine C217_2 ?_
      rw [d4, d5, d6, d7, o4, o5, o10]
      have hxb := hS.m x o1
      obtain ⟨⟨n1, -⟩, n9, n10⟩ := h1.1.2.1.2 x hxb.1 hxb.2
      refine ⟨d3, fun q => by omega, fun _ => ⟨rfl, by omega, rfl, by omega, ?_⟩⟩
      have := ih (p ++ [x]) (uI f (A x) 11 ((jdg s t).2.2 x)) (by rw [e]; simp) (hx.uI (fun _ => by rw [o5, ky5 n10]; decide)) hr (fun y hy => ?_) (fun a y hay => ?_)
      · rw [List.length_append] at this
        simp only [List.length_cons, List.length_nil] at this
        push_cast at this
        exact this
      · rw [fI_uI]
        by_cases q : y = x
        · subst q; rw [if_pos ⟨rfl, rfl⟩]
        · rcases List.mem_append.mp hy with hy | hy
          · rw [if_neg (fun w => q ?_)]
            · exact hp y hy
            · have hyb := hS.m y (by rw [e]; exact List.mem_append_left _ hy)
              exact h1.1.2.1.inj hxb w.2
          · exact absurd (List.mem_singleton.mp hy) q
      · rw [fI_uI, if_neg (fun w => ?_)]
        · exact ho a y hay
        · rcases hay with q | q
          · exact q w.1
          · exact q x o1 w.2
  exact C217 (key (fl t) [] c rfl CX.rf RMk.rf (fun x w => by cases w) (fun _ _ _ => rfl))
/-- is another reason told now? -/
def thn (A : Int → Nat) (c : SC) (s : SM) (t : Term) : Int := if (fl t).any (fun x => decide (fI c (A x) 11 ≠ -9 ∧ fI c (A x) 11 ≠ (jdg s t).2.2 x)) = true then 1 else 0
theorem then_c {F : Int → SC → Prop} (h1 : R1 A c s t) (hS : SHT s t) (hF : F (thn A c s t) c) : ck iv L h0 d 218 [vr 70] c (qi F) := by
  have key : ∀ (m p : List Int), fl t = p ++ m → (fl t).any (fun x => decide (fI c (A x) 11 ≠ -9 ∧ fI c (A x) 11 ≠ (jdg s t).2.2 x)) = m.any (fun x => decide (fI c (A x) 11 ≠ -9 ∧ fI c (A x) 11 ≠ (jdg s t).2.2 x)) → wk iv L h0 d 218 2 [lr 70, li p.length] [] c (qi F) := by
    intro m
    induction m with
    | nil =>
      intro p e hk
      obtain ⟨d1, d2, d3, d4⟩ := h1.nil
      rw [List.append_nil] at e
      unfold thn at hF
      rw [hk] at hF
      refine C218_2 ⟨d3, fun _ => hF, fun q => ?_⟩
      rw [d4, e] at q
      omega
    | cons x m ih =>
      intro p e hk
      obtain ⟨⟨d1, d2, d3, d4, d5, d6, d7⟩, o1, o2, o3, o4, o5, o6, o7, o8, o9, o10, o11, o12⟩ := h1.row hS e
      refine C218_2 ?_
      rw [d4, d5, d6, d7, o4, o5, o10]
      have nx : ¬ (fI c (A x) 11 ≠ -9 ∧ fI c (A x) 11 ≠ (jdg s t).2.2 x) → wk iv L h0 d 218 2 [lr 70, li (p.length + 1)] [] c (qi F) := fun w => by
        rw [List.any_cons, decide_eq_false w, Bool.false_or] at hk
        have := ih (p ++ [x]) (by rw [e]; simp) hk
        rw [List.length_append] at this
        simp only [List.length_cons, List.length_nil] at this
        push_cast at this
        exact this
      refine ⟨d3, fun q => by omega, fun _ => ⟨rfl, by omega, rfl, fun q => ⟨by omega, nx (fun w => w.1 q)⟩, fun q => ⟨fun q2 => ⟨by omega, nx (fun w => w.2 q2)⟩, fun q2 => ?_⟩⟩⟩
      rw [List.any_cons, decide_eq_true (show fI c (A x) 11 ≠ -9 ∧ fI c (A x) 11 ≠ (jdg s t).2.2 x from ⟨q, q2⟩), Bool.true_or] at hk
      unfold thn at hF
      rw [hk, if_pos rfl] at hF
      exact hF
  exact C218 (key (fl t) [] rfl rfl)
end
end
section
/-! The desk between calls, as far as works go: what stays over acts. -/
def DKc (A : Int → Nat) (c : SC) (s : SM) (t : Term) (K : List Snap) (Sh : Int → Option Snap) : Prop := R1 A c s t ∧ (BXc A c s ∧ FNc c s ∧ TRc c) ∧ KSc A c K ∧ SHc c Sh
/-- the box and the findings of the reference stay -/
def SBX (s s' : SM) : Prop := (s'.1 71 = s.1 71 ∧ ∀ i, 0 ≤ i → i < 8 → s'.2 72 i = s.2 72 i) ∧ s'.1 0 = s.1 0 ∧ ∀ f, 0 ≤ f → f < 6 → s'.2 1 f = s.2 1 f
section
variable {iv : List (Int × Int)} {L : Nat} {h0 : MH} {A A' : Int → Nat} {c c0 e : SC} {s s' w : SM} {t t' : Term} {d : Nat} {ys : List (Nat × Nat)} {rs : List Nat} {K : List Snap} {Sh : Int → Option Snap}
theorem BXc.sb (h : BXc A c s) (hs : SBX s s') : BXc A c s' := ⟨h.1.trans hs.1.1.symm, fun i i0 i8 => by rw [hs.1.2 i i0 i8]; exact h.2 i i0 i8⟩
theorem FNc.sb (h : FNc c s) (hs : SBX s s') : FNc c s' := ⟨h.1.trans hs.2.1.symm, fun f f0 f6 => by rw [hs.2.2 f f0 f6]; exact h.2 f f0 f6⟩
theorem TRc.x (h : TRc c) (hX : FIX c) (hx : CX ys rs c e) (hy : (25, 1) ∉ ys ∧ (25, 2) ∉ ys ∧ (25, 3) ∉ ys ∧ (25, 5) ∉ ys ∧ (25, 6) ∉ ys) (hr : ∀ a, a ∈ rs → a < 194 ∨ (194 < a ∧ a < 235) ∨ 307 ≤ a) : TRc e := h.up hX hx ⟨hy.1, hy.2.1, hy.2.2.1⟩ hr (fun m i m1 m16 hi => by
  obtain ⟨y1, y2⟩ := tra_in m m16
  have y1 := y1 (by omega)
  have h3 := hX.2.2.1
  have kk : ky (tra m + 2 + 2 * i) (kl c (tra m + 2 + 2 * i)) = 25 := by unfold ky; rw [if_pos (by omega)]
  exact ⟨hx.r (by omega) (by rw [kk]; exact hy.2.2.2.1), hx.i (by omega) (by rw [kk]; exact hy.2.2.2.2)⟩)
/-- the box, the findings, the trials over a change -/
theorem DK_b (h : BXc A c s ∧ FNc c s ∧ TRc c) (hX : FIX c) (hB : BX s) (hE : EXT A A' (s.1 8)) (hs : SBX s s') (hx : CX ys rs c e) (hy : (1, 12) ∉ ys ∧ (1, 14) ∉ ys ∧ (25, 1) ∉ ys ∧ (25, 2) ∉ ys ∧ (25, 3) ∉ ys ∧ (25, 5) ∉ ys ∧ (25, 6) ∉ ys) (hr : ∀ a, a ∈ rs → a < 194 ∨ (198 < a ∧ a < 235) ∨ 307 ≤ a) : BXc A' e s' ∧ FNc e s' ∧ TRc e := by
  obtain ⟨h1, h2, h3⟩ := h
  have n7 : 197 ∉ rs := fun q => by have := hr _ q; omega
  have n8 : 198 ∉ rs := fun q => by have := hr _ q; omega
  exact ⟨((h1.up hB hE).x hX hx hy.1 n7).sb hs, (h2.x hX hx hy.2.1 n8).sb hs, h3.x hX hx hy.2.2 (fun a ha => by have := hr a ha; omega)⟩
theorem acR_in : ∀ a, a ∈ acR → a < 194 ∨ (198 < a ∧ a < 235) ∨ 307 ≤ a := fun a ha => by
  have : acR.all (fun a => decide (a < 194 ∨ (198 < a ∧ a < 235) ∨ 307 ≤ a)) = true := by decide
  exact of_decide_eq_true (List.all_eq_true.mp this a ha)
theorem acR_sh : ∀ a, a ∈ acR → a < 199 ∨ 353 ≤ a := fun a ha => by
  have : acR.all (fun a => decide (a < 199 ∨ 353 ≤ a)) = true := by decide
  exact of_decide_eq_true (List.all_eq_true.mp this a ha)
theorem DKc.act (h : DKc A c s t K Sh) (hB : BX s) (hs : SBX s s') (ha : ACT A c s t K e s' t') : ∃ A', DKc A' e s' t' (push K (t, s)) Sh ∧ EXT A A' (s.1 8) ∧ RMk 10 100 c e ∧ fI e 64 15 = 1 ∧ CX acY acR c e ∧ NWc (nxt c) e := by
  obtain ⟨A', a1, a2, a3, a4, a5, a6, a7⟩ := ha
  obtain ⟨h1, h2, h3, h4⟩ := h
  have hX := h1.1.1
  exact ⟨A', ⟨a1, DK_b h2 hX hB a2 hs a3 (by decide) acR_in, a5, h4.x hX a3 (by decide) acR_sh⟩, a2, a4, a6, a3, a7⟩
theorem shR_in : ∀ a, a ∈ shR → a < 194 ∨ (198 < a ∧ a < 235) ∨ 307 ≤ a := fun a ha => by
  have : shR.all (fun a => decide (a < 194 ∨ (198 < a ∧ a < 235) ∨ 307 ≤ a)) = true := by decide
  exact of_decide_eq_true (List.all_eq_true.mp this a ha)
theorem DKc.und {u : Snap} {K0 : List Snap} (h : DKc A c s t (K0 ++ [u]) Sh) (hB : BX s) (ha : UND A c s e u K0) : DKc A e (unS s u) u.1 K0 Sh := by
  obtain ⟨a1, a2, a3, a4, a5, a6⟩ := ha
  obtain ⟨h1, h2, h3, h4⟩ := h
  have hX := h1.1.1
  have hs : SBX s (unS s u) := ⟨⟨rfl, fun i _ _ => by rw [unS_o (by decide)]⟩, rfl, fun f _ _ => by rw [unS_o (by decide)]⟩
  exact ⟨a1, DK_b h2 hX hB EXT.rf hs a2 (by decide) acR_in, a4, h4.x hX a2 (by decide) acR_sh⟩
theorem DKc.shl {p : Int} {u : Snap} (h : DKc A c s t K Sh) (hS : SHT s t) (hB : BX s) (hKP : ∀ u, u ∈ K → KP s u) (hx : CX shY shR c e) (ha : SHc e (shP Sh p u)) : DKc A e s t K (shP Sh p u) := by
  obtain ⟨h1, h2, h3, h4⟩ := h
  have hX := h1.1.1
  refine ⟨h1.x hS hx (by decide) (by decide) (by decide) (by decide), DK_b h2 hX hB EXT.rf ⟨⟨rfl, fun _ _ _ => rfl⟩, rfl, fun _ _ _ => rfl⟩ hx (by decide) shR_in, h3.x hX EXT.rf hS.2.2.2.2.1.1 hKP hx (by decide) (fun a ha w => ?_), ha⟩
  have h7 := snR_lt a ha
  have : shR.all (fun a => decide (199 ≤ a)) = true := by decide
  have := of_decide_eq_true (List.all_eq_true.mp this a w)
  omega
theorem DKc.fil {u : Snap} (h : DKc A c s t K Sh) (hT : AFT s t) (hB : BX s) (ha : FIL A c s t K u e) : ∃ A' st, DKc A' e (filV s st) (filT s t u) (push K (t, s)) Sh ∧ FBs s u (fl u.1).length st ∧ EXT A A' (s.1 8) ∧ RMk 130 1200 c e ∧ CX unY acR c e ∧ NWc (nxt c) e ∧ fI e 64 15 = fI c 64 15 ∧ fR e (A (s.1 16)) 12 = A' (s.1 8) ∧ ∀ a, a < nxt c → a ≠ A (s.1 16) → kl c a = 5 → fR e a 12 = fR c a 12 := by
  obtain ⟨A', st, a1, a2, a3, a4, a5, a6, a7, a8, a9, a10⟩ := ha
  obtain ⟨h1, h2, h3, h4⟩ := h
  have hX := h1.1.1
  have he := a2.2.1
  have hs : SBX s (filV s st) := by
    refine ⟨⟨(replU_e.1 71 (by decide)).trans (he.1 71 (by decide)), fun i _ _ => by rw [filV_o (by decide), he.2 72 (by decide)]⟩, (replU_e.1 0 (by decide)).trans (he.1 0 (by decide)), fun f _ _ => by rw [filV_o (by decide), he.2 1 (by decide)]⟩
  exact ⟨A', st, ⟨a1, DK_b h2 hX hB a3 hs a4 (by decide) acR_in, a6, h4.x hX a4 (by decide) acR_sh⟩, a2, a3, a5, a4, a7, a8, a9, a10⟩
end
end
