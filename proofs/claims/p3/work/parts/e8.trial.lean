/-! The trials of the desk: where they lie, judging one. -/
/-- where the trials lie -/
def tra : Nat → Nat
  | 0 => 233
  | n + 1 => tra n + 2 + 2 * (pO n).toNat
def TRc (c : SC) : Prop := ∀ n : Nat, 1 ≤ n → n < 16 → (aR c 194 n = tra n ∧ kl c (tra n) = 5 ∧ kl c (tra n + 1) = 103 ∧ le c (tra n + 1) = pO n ∧ fI c (tra n) 1 = n ∧ fR c (tra n) 3 = tra n + 1 ∧ (n = 8 ∨ n = 15 → fI c (tra n) 2 = 0)) ∧ ∀ i : Nat, (i : Int) < pO n → aR c (tra n + 1) i = tra n + 2 + 2 * i ∧ kl c (tra n + 2 + 2 * i) = 5 ∧ kl c (tra n + 2 + 2 * i + 1) = 103 ∧ le c (tra n + 2 + 2 * i + 1) = 0 ∧ fI c (tra n + 2 + 2 * i) 1 = 0 ∧ fR c (tra n + 2 + 2 * i) 3 = tra n + 2 + 2 * i + 1 ∧ fR c (tra n + 2 + 2 * i) 5 = tra n ∧ fI c (tra n + 2 + 2 * i) 6 = i
theorem tra_in : ∀ n : Nat, n < 16 → (n ≠ 0 → 235 ≤ tra n) ∧ (tra n : Int) + 2 + 2 * pO n ≤ 307 := by decide +kernel
def trA (A : Int → Nat) (n : Nat) : Int → Nat := fun b => if 3000 ≤ b ∧ b < 3004 then tra n + 2 * (b - 3000).toNat else A b
def trX (c : SC) (s : SM) (n : Nat) : SM := (s.1, fun f b => if f = 14 then (if 9000 ≤ b ∧ b < 9003 then b - 5999 else s.2 14 b) else if 3000 ≤ b ∧ b < 3004 then (if f = 9 then (if b = 3000 then (n : Int) else 0) else if f = 10 then fI c (tra n + 2 * (b - 3000).toNat) 4 else if f = 11 then fI c (tra n + 2 * (b - 3000).toNat) 2 else if f = 12 then (if b = 3000 then s.2 12 (s.1 16) else 3000) else if f = 13 then (if b = 3000 then s.2 13 (s.1 16) else b - 3001) else s.2 f b) else s.2 f b)
def trT (n : Nat) : Term := adds (pO n).toNat 3001 (.index 3000)
theorem trT_mem {n : Nat} {y : Int} (h : y ∈ fl (trT n)) : 3000 ≤ y ∧ y < 3001 + pO n := by
  have hpo := pO_in n
  unfold trT at h
  rcases adds_mem h with q | q
  · have : y = ((3000 : Nat) : Int) := List.mem_singleton.mp q
    omega
  · omega
theorem trT_in {n : Nat} {y : Int} (h : 3000 ≤ y ∧ y < 3001 + pO n) : y ∈ fl (trT n) := by
  have hpo := pO_in n
  unfold trT
  rw [adds_fl]
  by_cases q : y = 3000
  · rw [q]; exact List.mem_append_left _ (List.mem_singleton.mpr rfl)
  · refine List.mem_append_right _ (List.mem_map.mpr ⟨y.toNat, List.mem_range'.mpr ⟨(y - 3001).toNat, by omega, by omega⟩, ?_⟩)
    show ((y.toNat : Nat) : Int) = y
    omega
theorem AT_tr {so pa up pl : Int → Int} {n : Nat} (hn : n < 16) (h0 : so 3000 = n) (h1 : ∀ b, 3000 < b → b < 3004 → so b = 0 ∧ up b = 3000 ∧ pl b = b - 3001 ∧ pa (b + 5999) = b) : AT so pa up pl 3004 (trT n) ∧ full so (trT n) ∧ (fl (trT n)).Nodup ∧ hd (trT n) = 3000 := by
  have hpo := pO_in n
  have p0 : pO 0 = 0 := by decide
  obtain ⟨a1, a2, a3, a4⟩ := h1 3001 (by decide) (by decide)
  obtain ⟨b1, b2, b3, b4⟩ := h1 3002 (by decide) (by decide)
  obtain ⟨c1, c2, c3, c4⟩ := h1 3003 (by decide) (by decide)
  have x0 : AT so pa up pl 3004 (.index 3000) := ⟨by decide, by show 0 ≤ so 3000 ∧ so 3000 < 16; rw [h0]; omega⟩
  have x1 : AT so pa up pl 3004 (.index 3001) := ⟨by decide, by show 0 ≤ so 3001 ∧ so 3001 < 16; rw [a1]; omega⟩
  have x2 : AT so pa up pl 3004 (.index 3002) := ⟨by decide, by show 0 ≤ so 3002 ∧ so 3002 < 16; rw [b1]; omega⟩
  have x3 : AT so pa up pl 3004 (.index 3003) := ⟨by decide, by show 0 ≤ so 3003 ∧ so 3003 < 16; rw [c1]; omega⟩
  have g1 : 0 < pO n → AT so pa up pl 3004 (.add (.index 3000) (.index 3001)) := fun q => ⟨x0, x1, by show 0 = pO (so 3001); rw [a1, p0], by show 0 < pO (so 3000); rw [h0]; exact q, a4, a2, a3⟩
  have g2 : 1 < pO n → AT so pa up pl 3004 (.add (.add (.index 3000) (.index 3001)) (.index 3002)) := fun q => ⟨g1 (by omega), x2, by show 0 = pO (so 3002); rw [b1, p0], by show 1 < pO (so 3000); rw [h0]; exact q, b4, b2, b3⟩
  have g3 : 2 < pO n → AT so pa up pl 3004 (.add (.add (.add (.index 3000) (.index 3001)) (.index 3002)) (.index 3003)) := fun q => ⟨g2 (by omega), x3, by show 0 = pO (so 3003); rw [c1, p0], by show 2 < pO (so 3000); rw [h0]; exact q, c4, c2, c3⟩
  unfold trT
  rcases (show pO n = 0 ∨ pO n = 1 ∨ pO n = 2 ∨ pO n = 3 by omega) with e | e | e | e
  · rw [e]
    exact ⟨x0, by show 0 = pO (so 3000); rw [h0, e], by decide, rfl⟩
  · rw [e]
    exact ⟨g1 (by omega), by show 1 = pO (so 3000); rw [h0, e], by decide, rfl⟩
  · rw [e]
    exact ⟨g2 (by omega), by show 2 = pO (so 3000); rw [h0, e], by decide, rfl⟩
  · rw [e]
    exact ⟨g3 (by omega), by show 3 = pO (so 3000); rw [h0, e], by decide, rfl⟩
theorem KJ_lt {n m : Int} {ks ka kb sz ks' ka' kb' sz' : Int → Int} (h : KJ n m ks ka kb sz) (he : ∀ k, k < m → ks' k = ks k ∧ ka' k = ka k ∧ kb' k = kb k ∧ sz' k = sz k) : KJ n m ks' ka' kb' sz' := by
  obtain ⟨h1, h2, h3⟩ := h
  refine ⟨KI_lt h1 (fun k _ kn => he k (by have := h1.1; omega)), h2, fun k k4 km => ?_⟩
  obtain ⟨q1, q2, q3, q4, q5⟩ := h3 k k4 km
  obtain ⟨e1, e2, e3, e4⟩ := he k km
  have n2 : ka k < m := by unfold vk at q2; have := h1.1; omega
  have n3 : kb k < m := by unfold vk at q3; have := h1.1; omega
  rw [e1, e2, e3, e4, (he _ n2).2.2.2, (he _ n3).2.2.2]
  exact ⟨q1, q2, q3, q4, q5⟩
def trY : List (Nat × Nat) := [(25, 4), (25, 5), (25, 6), (5, 8), (5, 9), (5, 10), (25, 8), (25, 9), (25, 10), (4, 5)]
def trR : List Nat := [66, 67, 68, 69, 195, 196]
section
variable {iv : List (Int × Int)} {L : Nat} {h0 : MH} {A A' : Int → Nat} {c e : SC} {s s' w : SM} {t : Term} {d : Nat} {ys : List (Nat × Nat)} {rs : List Nat}
theorem trX_o {n : Nat} {f : Nat} {b : Int} (hb : b < 3000) (hf : f ≠ 14) : (trX c s n).2 f b = s.2 f b := by
  unfold trX
  dsimp only
  rw [if_neg hf, if_neg (by omega)]
theorem trX_14 {n : Nat} {b : Int} (hb : b < 9000) : (trX c s n).2 14 b = s.2 14 b := by
  unfold trX
  dsimp only
  rw [if_pos rfl, if_neg (by omega)]
theorem trX_n {n : Nat} {b : Int} (hb : 3000 ≤ b ∧ b < 3004) : (trX c s n).2 9 b = (if b = 3000 then (n : Int) else 0) ∧ (trX c s n).2 10 b = fI c (tra n + 2 * (b - 3000).toNat) 4 ∧ (trX c s n).2 11 b = fI c (tra n + 2 * (b - 3000).toNat) 2 ∧ (trX c s n).2 12 b = (if b = 3000 then s.2 12 (s.1 16) else 3000) ∧ (trX c s n).2 13 b = (if b = 3000 then s.2 13 (s.1 16) else b - 3001) := by
  unfold trX
  dsimp only
  refine ⟨?_, ?_, ?_, ?_, ?_⟩
  · rw [if_neg (by decide), if_pos hb, if_pos rfl]
  · rw [if_neg (by decide), if_pos hb, if_neg (by decide), if_pos rfl]
  · rw [if_neg (by decide), if_pos hb, if_neg (by decide), if_neg (by decide), if_pos rfl]
  · rw [if_neg (by decide), if_pos hb, if_neg (by decide), if_neg (by decide), if_neg (by decide), if_pos rfl]
  · rw [if_neg (by decide), if_pos hb, if_neg (by decide), if_neg (by decide), if_neg (by decide), if_neg (by decide), if_pos rfl]
theorem trX_p {n : Nat} {b : Int} (hb : 3000 < b ∧ b < 3004) : (trX c s n).2 14 (b + 5999) = b := by
  unfold trX
  dsimp only
  rw [if_pos rfl, if_pos (by omega)]; omega
theorem trA_o {n : Nat} {b : Int} (hb : b < 3000) : trA A n b = A b := if_neg (by omega)
/-- a trial hangs where the cursor does: the place to judge it -/
theorem tr_js {n : Nat} (h1 : R1 A c s t) (hS : SHT s t) (hc : s.1 16 ∈ fl t) (hT : TRc c) (hn : 1 ≤ n ∧ n < 16) (h5 : fR c (tra n) 5 = fR c (A (s.1 16)) 5) (h6 : fI c (tra n) 6 = fI c (A (s.1 16)) 6) : JS (trA A n) (fun x => x ∈ fl t ∨ x ∈ fl (trT n)) c (trX c s n) := by
  obtain ⟨⟨r1, r2, r3, r4, r5, r6, r7⟩, rp⟩ := hT n hn.1 hn.2
  obtain ⟨z1, z2⟩ := tra_in n hn.2
  have z1 := z1 (by omega)
  have hpo := pO_in n
  have hJ := js_of h1.1.1 h1.1.2.1 h1.1.2.2.1 hS
  have lt : ∀ x, x ∈ fl t → x < 3000 ∧ 0 ≤ x := fun x hx => by have := hS.m x hx; have := hS.2.2.2.2.1; omega
  have Ab : ∀ x, x ∈ fl t → A x = 73 ∨ 353 ≤ A x := fun x hx => (h1.1.2.1.2 x (hS.m x hx).1 (hS.m x hx).2).2.2
  obtain ⟨g1, g2, g3⟩ := h1.1.2.2.1.1 _ hc
  have t0 : trA A n 3000 = tra n := by unfold trA; rw [if_pos (by omega)]; omega
  have tp : ∀ b, 3000 ≤ b → b < 3004 → trA A n b = tra n + 2 * (b - 3000).toNat := fun b b0 b1 => if_pos ⟨b0, b1⟩
  have par : ∀ b, 3000 < b → b < 3001 + pO n → ∃ i : Nat, (i : Int) < pO n ∧ b = 3001 + i ∧ trA A n b = tra n + 2 + 2 * i := fun b b0 b1 => ⟨(b - 3001).toNat, by omega, by omega, by rw [tp b (by omega) (by omega)]; omega⟩
  refine ⟨⟨?_, fun b b' hb hb' he => ?_⟩, fun b hb => ?_⟩
  · rw [trA_o (by decide)]; exact hJ.1.1
  · rcases hb with hb | hb <;> rcases hb' with hb' | hb'
    · rw [trA_o (lt b hb).1, trA_o (lt b' hb').1] at he
      exact hJ.1.2 b b' hb hb' he
    · have m := trT_mem hb'
      rw [trA_o (lt b hb).1, tp b' (by omega) (by omega)] at he
      have := Ab b hb
      omega
    · have m := trT_mem hb
      rw [trA_o (lt b' hb').1, tp b (by omega) (by omega)] at he
      have := Ab b' hb'
      omega
    · have m := trT_mem hb
      have m' := trT_mem hb'
      rw [tp b (by omega) (by omega), tp b' (by omega) (by omega)] at he
      omega
  · rcases hb with hb | hb
    · obtain ⟨b0, b1⟩ := lt b hb
      obtain ⟨p1, p2, ⟨p3, p4, p5⟩, p6⟩ := hJ.2 b hb
      rw [trA_o b0, trX_o b0 (by decide), trX_o b0 (by decide), trX_o b0 (by decide), trX_o b0 (by decide), trX_o b0 (by decide)]
      refine ⟨p1, p2, ⟨?_, p4, p5.imp id Or.inl⟩, fun i i0 i1 => ?_⟩
      · rw [p3]
        rcases p5 with q | q
        · rw [q, trA_o (by decide)]
        · rw [trA_o (lt _ q).1]
      · obtain ⟨q1, q2⟩ := p6 i i0 i1
        have := pO_in (s.2 9 b)
        rw [trX_14 (by omega), q1, trA_o (lt _ q2).1]
        exact ⟨rfl, Or.inl q2⟩
    · have m := trT_mem hb
      have hb4 : 3000 ≤ b ∧ b < 3004 := by omega
      obtain ⟨x9, x10, x11, x12, x13⟩ := trX_n (c := c) (s := s) (n := n) hb4
      have p0 : pO 0 = 0 := by decide
      by_cases q : b = 3000
      · subst q
        rw [if_pos rfl] at x9 x12 x13
        have ez : tra n + 2 * ((3000 : Int) - 3000).toNat = tra n := by simp
        rw [ez] at x10 x11
        rw [t0, x9, x10, x11, x12, x13]
        refine ⟨⟨by omega, r2, r3, r4⟩, ⟨r5, rfl, rfl, r6⟩, ⟨?_, fun w => ?_, ?_⟩, fun i i0 i1 => ?_⟩
        · rw [h5, g1]
          by_cases w : s.1 16 = hd t
          · have hu := hS.2.2.2.2.2.2.1
            rw [← w] at hu
            rw [hu, trA_o (by decide)]
          · rw [trA_o (lt _ (hS.up9 hc w)).1]
        · rw [h6]
          exact g2 (fun w' => w (by rw [w']; exact hS.2.2.2.2.2.2.1))
        · by_cases w : s.1 16 = hd t
          · left; rw [w]; exact hS.2.2.2.2.2.2.1
          · right; left; exact hS.up9 hc w
        · obtain ⟨k, rfl⟩ : ∃ k : Nat, i = k := ⟨i.toNat, by omega⟩
          obtain ⟨q1, -⟩ := rp k i1
          have hx := trX_p (c := c) (s := s) (n := n) (b := 3001 + k) ⟨by omega, by omega⟩
          rw [show (3001 : Int) + k + 5999 = 3 * 3000 + k by omega] at hx
          rw [hx, q1, tp _ (by omega) (by omega)]
          exact ⟨by omega, Or.inr (trT_in ⟨by omega, by omega⟩)⟩
      · obtain ⟨i, i1, rfl, i2⟩ := par b (by omega) m.2
        rw [if_neg q] at x9 x12 x13
        obtain ⟨q1, q2, q3, q4, q5, q6, q7, q8⟩ := rp i i1
        have ez : tra n + 2 * (3001 + (i : Int) - 3000).toNat = tra n + 2 + 2 * i := by omega
        rw [ez] at x10 x11
        rw [i2, x9, x10, x11, x12, x13, t0, p0]
        refine ⟨⟨by omega, q2, q3, q4⟩, ⟨q5, rfl, rfl, q6⟩, ⟨q7, fun _ => by rw [q8]; omega, Or.inr (Or.inr (trT_in ⟨by omega, by omega⟩))⟩, fun j j0 j1 => by omega⟩
end
