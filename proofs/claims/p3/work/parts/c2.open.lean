/-! The sheet while an act changes it: nodes born, links put. -/
/-- links that are right: upward, downward -/
def LK (A : Int → Nat) (c : SC) (s : SM) (P : Int → Prop) : Prop := ∀ b, P b → fR c (A b) 5 = A (s.2 12 b) ∧ (s.2 12 b ≠ -9 → fI c (A b) 6 = s.2 13 b)
def PT (A : Int → Nat) (c : SC) (s : SM) (Q : Int → Int → Prop) : Prop := ∀ b i, Q b i → aR c (A b + 1) i = A (s.2 14 (3 * b + i))
def INB (s : SM) (P : Int → Prop) (Q : Int → Int → Prop) : Prop := (∀ b, P b → (0 ≤ b ∧ b < s.1 8) ∧ (s.2 12 b = -9 ∨ (0 ≤ s.2 12 b ∧ s.2 12 b < s.1 8))) ∧ ∀ b i, Q b i → (0 ≤ b ∧ b < s.1 8) ∧ (0 ≤ i ∧ i < pO (s.2 9 b)) ∧ 0 ≤ s.2 14 (3 * b + i) ∧ s.2 14 (3 * b + i) < s.1 8
def OP (A : Int → Nat) (c : SC) (s : SM) (P : Int → Prop) (Q : Int → Int → Prop) : Prop := (FIX c ∧ ND A c s ∧ INB s P Q) ∧ (LK A c s P ∧ PT A c s Q) ∧ (fR c 70 1 = A (s.1 15) ∧ fI c 70 4 = s.1 8 ∧ 0 ≤ s.1 15 ∧ s.1 15 < s.1 8) ∧ KIc c s ∧ 0 ≤ s.1 8 ∧ s.1 8 ≤ 3000
/-- more nodes -/
def EXT (A A' : Int → Nat) (B : Int) : Prop := ∀ b, b < B → A' b = A b
def A1 (A : Int → Nat) (B : Int) (a : Nat) : Int → Nat := fun b => if b = B then a else A b
theorem EXT.rf {A : Int → Nat} {B : Int} : EXT A A B := fun _ _ => rfl
theorem EXT.tr {A A' A'' : Int → Nat} {B B' : Int} (h : EXT A A' B) (h' : EXT A' A'' B') (hB : B ≤ B') : EXT A A'' B := fun b h1 => (h' b (by omega)).trans (h b h1)
theorem EXT_1 {A : Int → Nat} {B : Int} {a : Nat} : EXT A (A1 A B a) B := fun b h1 => if_neg (by omega)
/-- what stands in a cell that was born -/
def BORN (c e : SC) (so v k : Int) : Prop := CX [(8, 4)] [] c e ∧ (nxt e = nxt c + 2 ∧ slo e ≤ slo c + 16) ∧ fI e 70 4 = fI c 70 4 + 1 ∧ NDb e (nxt c) (fI c 70 4) so v k ∧ fR e (nxt c) 5 = 2 ∧ fR e (nxt c) 12 = 2 ∧ fI e (nxt c) 11 = -9
/-- nodes made since then were neither filled nor worked -/
def NWc (lo : Nat) (c : SC) : Prop := ∀ a, lo ≤ a → a < nxt c → kl c a = 5 → fR c a 12 = 2 ∧ fI c a 11 = -9
theorem NWc.rf {c : SC} : NWc (nxt c) c := fun a h1 h2 => by omega
theorem NWc.x {lo : Nat} {c e : SC} {ys : List (Nat × Nat)} {rs : List Nat} (h : NWc lo c) (hl : 353 ≤ lo) (hx : CX ys rs c e) (hr : RMk 0 0 c e) (hy : (5, 11) ∉ ys ∧ (5, 12) ∉ ys) : NWc lo e := fun a h1 h2 h3 => by
  have hn : a < nxt c := by have := hr.1; omega
  rw [hx.k hn] at h3
  have hk : ky a (kl c a) = 5 := by unfold ky; rw [if_neg (by omega), h3]
  rw [hx.r hn (by rw [hk]; exact hy.2), hx.i hn (by rw [hk]; exact hy.1)]
  exact h a h1 hn h3
theorem NWc.b {lo : Nat} {c e : SC} {so v k : Int} (h : NWc lo c) (hl : 353 ≤ lo) (hb : BORN c e so v k) : NWc lo e := fun a h1 h2 h3 => by
  have hn2 := hb.2.1.1
  by_cases e1 : a = nxt c
  · subst e1
    exact ⟨hb.2.2.2.2.2.1, hb.2.2.2.2.2.2⟩
  · by_cases e2 : a = nxt c + 1
    · subst e2
      have := hb.2.2.2.1.2.1
      rw [this] at h3
      omega
    · have hn : a < nxt c := by omega
      rw [hb.1.k hn] at h3
      have hk : ky a (kl c a) = 5 := by unfold ky; rw [if_neg (by omega), h3]
      rw [hb.1.r hn (by rw [hk]; decide), hb.1.i hn (by rw [hk]; decide)]
      exact h a h1 hn h3
section
variable {iv : List (Int × Int)} {L : Nat} {h0 : MH} {A : Int → Nat} {c e : SC} {s : SM} {t : Term} {d : Nat} {P : Int → Prop} {Q : Int → Int → Prop}
theorem born_c {so v k : Int} {F : Nat → SC → Prop} (hX : FIX c) (hB : 0 ≤ fI c 70 4 ∧ fI c 70 4 ≤ 3000) (hso : 0 ≤ so ∧ so < 16) (hF : ∀ e, BORN c e so v k → F (nxt c) e) : ck iv L h0 (d + 1) 204 [vr 70, vi so, vi v, vi k] c (qa F) := by
  have h3 := hX.2.2.1
  have hk : kl c 70 = 8 := by simp only [hX.1]
  have hp := pO_in so
  refine C204 ⟨h3, ?_, ?_, by omega, ?_⟩
  · rw [kl_nO, if_neg (by omega)]; exact hk
  · rw [fI_nO, if_neg (by omega)]; omega
  · refine C186 ⟨by omega, ?_, hso, by omega, ?_, ?_, hF _ ⟨?_, ⟨rfl, ?_⟩, ?_, ⟨?_, ?_, ?_, ?_, ?_, ?_, ?_, ?_⟩, ?_, ?_, ?_⟩⟩
    · rw [kl_uI, kl_nO, if_pos rfl]
    · show 353 ≤ nxt c + 1; omega
    · simp only [kl_nA, kl_uI, kl_nO, nx_uI, nx_nO]
      rw [if_neg (by omega), if_pos trivial]
    · have nw : ∀ {e : SC} {y : Nat} {z : Int}, CX [(8, 4)] [] c e → CX [(8, 4)] [] c (uI e (nxt c) y z) := fun h => h.uI (fun q => by omega)
      have nr : ∀ {e : SC} {y z : Nat}, CX [(8, 4)] [] c e → CX [(8, 4)] [] c (uR e (nxt c) y z) := fun h => h.uR (fun q => by omega)
      refine nr (CX.nA (nw (nw (nw (nw (nr (nw (nw (nw (nw (nw (nw (nr ?_)))))))))))))
      refine CX.uI CX.rf.nO (fun _ => ?_)
      rw [kl_nO, if_neg (by omega), hk]
      decide
    · show slo c + nfl 4 + (pO so).toNat ≤ slo c + 16
      have : nfl 4 = 13 := by decide
      omega
    · have e70 : ¬ (70 = nxt c) := by omega
      simp only [fI_uR, fI_nA, fI_uI, fI_nO]
      simp [e70]
    · simp only [kl_uR, kl_nA, kl_uI, kl_nO, nx_uI, nx_nO, nx_uR]
      rw [if_neg (by omega), if_pos trivial]
    · simp only [kl_uR, kl_nA, kl_uI, kl_nO, nx_uI, nx_nO, nx_uR]
      simp
    · simp only [le_uR, le_nA, le_uI, le_nO, nx_uI, nx_nO, nx_uR]
      simp
    · simp only [fI_uR, fI_nA, fI_uI, fI_nO]
      simp
      intro q; omega
    · simp only [fI_uR, fI_nA, fI_uI, fI_nO]
      simp
    · simp only [fI_uR, fI_nA, fI_uI, fI_nO]
      simp
    · simp only [fR_uR, nx_uI, nx_nO, nx_uR]
      simp
    · simp only [fI_uR, fI_nA, fI_uI, fI_nO]
      simp
    · simp only [fR_uR, fR_nA, fR_uI, fR_nO]
      simp
    · simp only [fR_uR, fR_nA, fR_uI, fR_nO]
      simp
    · simp only [fI_uR, fI_nA, fI_uI, fI_nO]
      simp
theorem BORN.new {so v k : Int} (h : BORN c e so v k) (hX : FIX c) : FIX e := hX.x h.1 (by decide) (by decide)
theorem bornU_1 {so v k : Int} {y : Nat} : (bornU s so v k).1 y = if y = 8 then s.1 8 + 1 else s.1 y := rfl
/-- links outside of what changed -/
theorem LK.up {A' : Int → Nat} {s' : SM} (h : LK A c s P) (hP : ∀ b, P b → A' b = A b ∧ A' (s.2 12 b) = A (s.2 12 b) ∧ fR e (A b) 5 = fR c (A b) 5 ∧ fI e (A b) 6 = fI c (A b) 6 ∧ s'.2 12 b = s.2 12 b ∧ s'.2 13 b = s.2 13 b) : LK A' e s' P := fun b hb => by
  obtain ⟨e1, e2, e3, e4, e5, e6⟩ := hP b hb
  rw [e5, e6, e1, e2, e3, e4]
  exact h b hb
theorem PT.up {A' : Int → Nat} {s' : SM} (h : PT A c s Q) (hQ : ∀ b i, Q b i → A' b = A b ∧ A' (s.2 14 (3 * b + i)) = A (s.2 14 (3 * b + i)) ∧ aR e (A b + 1) i = aR c (A b + 1) i ∧ s'.2 14 (3 * b + i) = s.2 14 (3 * b + i)) : PT A' e s' Q := fun b i hb => by
  obtain ⟨e1, e2, e3, e4⟩ := hQ b i hb
  rw [e4, e1, e2, e3]
  exact h b i hb
theorem KIc.x {ys : List (Nat × Nat)} {rs : List Nat} (h : KIc c s) (hX : FIX c) (hx : CX ys rs c e) (hy : (4, 4) ∉ ys) (hr : 66 ∉ rs ∧ 67 ∉ rs ∧ 68 ∉ rs ∧ 69 ∉ rs) : KIc e s := by
  have h3 := hX.2.2.1
  have hk : kl c 65 = 4 := by simp only [hX.1]
  refine ⟨(hx.i (by omega) (by rw [hk]; exact hy)).trans h.1, fun k k0 kn => ?_⟩
  rw [hx.ai (a := 66) (by omega) (by unfold rk; rw [if_pos (by decide)]; exact hr.1), hx.ai (a := 67) (by omega) (by unfold rk; rw [if_pos (by decide)]; exact hr.2.1), hx.ai (a := 68) (by omega) (by unfold rk; rw [if_pos (by decide)]; exact hr.2.2.1), hx.ai (a := 69) (by omega) (by unfold rk; rw [if_pos (by decide)]; exact hr.2.2.2)]
  exact h.2 k k0 kn
theorem op_x {ys : List (Nat × Nat)} {rs : List Nat} (h : OP A c s P Q) (hx : CX ys rs c e) (h0 : (5, 0) ∉ ys ∧ (5, 1) ∉ ys ∧ (5, 2) ∉ ys ∧ (5, 3) ∉ ys ∧ (5, 4) ∉ ys) (h5 : (5, 5) ∉ ys ∧ (5, 6) ∉ ys) (h8 : (8, 1) ∉ ys ∧ (8, 4) ∉ ys ∧ (4, 4) ∉ ys) (hf : ∀ q, q ∈ finF → q ∉ ys) (hr : 1103 ∉ rs ∧ 74 ∉ rs ∧ 72 ∉ rs ∧ 193 ∉ rs) (hk : 66 ∉ rs ∧ 67 ∉ rs ∧ 68 ∉ rs ∧ 69 ∉ rs) : OP A e s P Q := by
  obtain ⟨⟨hX, hN, hI⟩, ⟨hL, hP⟩, ⟨ht, h8', ht0, ht8⟩, hKI, hB⟩ := h
  have h3 := hX.2.2.1
  have k70 : kl c 70 = 8 := by simp only [hX.1]
  have at5 : ∀ b, (0 ≤ b ∧ b < s.1 8) → A b < nxt c ∧ ky (A b) (kl c (A b)) = 5 ∧ A b + 1 < nxt c ∧ rk (A b + 1) (kl c (A b + 1)) ∉ rs := fun b hb => by
    obtain ⟨⟨n1, n2, n3, n4, n5, n6, n7, n8⟩, n9, n10⟩ := hN.2 b hb.1 hb.2
    refine ⟨by omega, by rw [ky5 n10, n1], n9, ?_⟩
    rw [n2]
    unfold rk
    split
    · rw [show A b + 1 = 74 by omega]; exact hr.2.1
    · exact hr.1
  refine ⟨⟨hX.x hx hf hr.2.2, hN.x hx h0.1 h0.2.1 h0.2.2.1 h0.2.2.2.1 h0.2.2.2.2, hI⟩, ⟨hL.up (fun b hb => ?_), hP.up (fun b i hb => ?_)⟩, ⟨(hx.r (by omega) (by rw [k70]; exact h8.1)).trans ht, (hx.i (by omega) (by rw [k70]; exact h8.2.1)).trans h8', ht0, ht8⟩, hKI.x hX hx h8.2.2 hk, hB⟩
  · obtain ⟨g1, g2, -⟩ := at5 b (hI.1 b hb).1
    exact ⟨rfl, rfl, hx.r g1 (by rw [g2]; exact h5.1), hx.i g1 (by rw [g2]; exact h5.2), rfl, rfl⟩
  · obtain ⟨-, -, g3, g4⟩ := at5 b (hI.2 b i hb).1
    exact ⟨rfl, rfl, by rw [hx.ar g3 g4], rfl⟩
theorem op_born {so v k : Int} (h : OP A c s P Q) (hb : BORN c e (so) (nvl so v) (kvl so k)) (hB : s.1 8 < 3000) (hso : 0 ≤ so ∧ so < 16) : OP (A1 A (s.1 8) (nxt c)) e (bornU s so v k) P Q ∧ A1 A (s.1 8) (nxt c) (s.1 8) = nxt c ∧ EXT A (A1 A (s.1 8) (nxt c)) (s.1 8) := by
  obtain ⟨⟨hX, hN, hI⟩, ⟨hL, hP⟩, ⟨ht, h8', ht0, ht8⟩, hKI, hB0⟩ := h
  have h3 := hX.2.2.1
  have hE : EXT A (A1 A (s.1 8) (nxt c)) (s.1 8) := EXT_1
  have hx := hb.1
  have k70 : kl c 70 = 8 := by simp only [hX.1]
  have e8 : (bornU s so v k).1 8 = s.1 8 + 1 := rfl
  have hold := bornU_o (s := s) (so := so) (v := v) (k := k)
  have hat := bornU_at (s := s) (so := so) (v := v) (k := k)
  have he := bornU_e (s := s) (so := so) (v := v) (k := k)
  have e12 : (bornU s so v k).2 12 = s.2 12 := he.2 12 (by decide)
  have e13 : (bornU s so v k).2 13 = s.2 13 := he.2 13 (by decide)
  have e14 : (bornU s so v k).2 14 = s.2 14 := he.2 14 (by decide)
  have at5 : ∀ b, (0 ≤ b ∧ b < s.1 8) → A b < nxt c ∧ ky (A b) (kl c (A b)) = 5 ∧ A b + 1 < nxt c := fun b hb => by
    obtain ⟨⟨n1, n2, n3, n4, n5, n6, n7, n8⟩, n9, n10⟩ := hN.2 b hb.1 hb.2
    exact ⟨by omega, by rw [ky5 n10, n1], n9⟩
  have cond : ∀ z, z = -9 ∨ (0 ≤ z ∧ z < s.1 8) → A1 A (s.1 8) (nxt c) z = A z := fun z hz => hE z (by omega)
  refine ⟨⟨⟨hX.x hx (by decide) (by decide), ⟨fun b hb' => ?_, fun b b0 b1 => ?_⟩, ⟨fun b hb' => ?_, fun b i hb' => ?_⟩⟩, ⟨hL.up (fun b hb' => ?_), hP.up (fun b i hb' => ?_)⟩, ⟨?_, ?_, ht0, by rw [e8]; show s.1 15 < s.1 8 + 1; omega⟩, ?_, by rw [e8]; omega⟩, if_pos rfl, hE⟩
  · rw [e8] at hb'
    show (if b = s.1 8 then nxt c else A b) = 2
    rw [if_neg (by omega)]
    exact hN.1 b (by omega)
  · rw [e8] at b1
    show NDb e (if b = s.1 8 then nxt c else A b) b _ _ _ ∧ _
    by_cases q : b = s.1 8
    · subst q
      rw [if_pos rfl, hat.1, hat.2.1, hat.2.2]
      refine ⟨?_, ?_⟩
      · have := hb.2.2.2.1
        rw [h8'] at this
        exact this
      · show (if s.1 8 = s.1 8 then nxt c else A (s.1 8)) + 1 < nxt e ∧ ((if s.1 8 = s.1 8 then nxt c else A (s.1 8)) = 73 ∨ _)
        rw [if_pos rfl, hb.2.1.1]
        exact ⟨by omega, Or.inr (by rw [A1, if_pos rfl]; exact h3)⟩
    · rw [if_neg q]
      obtain ⟨o1, -, -⟩ := hold b (by omega)
      rw [o1.1, o1.2.1, o1.2.2]
      have := (hN.x hx (by decide) (by decide) (by decide) (by decide) (by decide)).2 b b0 (by omega)
      rw [A1, if_neg q]
      exact this
  · obtain ⟨g1, g2⟩ := hI.1 b hb'
    rw [e8, e12]
    omega
  · obtain ⟨g1, g2, g3⟩ := hI.2 b i hb'
    rw [e8, e14, (hold b (by omega)).1.1]
    omega
  · obtain ⟨g1, g2⟩ := hI.1 b hb'
    obtain ⟨a1, a2, a3⟩ := at5 b g1
    exact ⟨cond b (Or.inr g1), cond _ g2, hx.r a1 (by rw [a2]; decide), hx.i a1 (by rw [a2]; decide), by rw [e12], by rw [e13]⟩
  · obtain ⟨g1, g2, g3⟩ := hI.2 b i hb'
    obtain ⟨a1, a2, a3⟩ := at5 b g1
    exact ⟨cond b (Or.inr g1), cond _ (Or.inr g3), by rw [hx.ar a3 (by simp)], by rw [e14]⟩
  · have e15 : (bornU s so v k).1 15 = s.1 15 := rfl
    rw [hx.r (by omega) (by rw [k70]; decide), ht, e15]
    exact (hE _ ht8).symm
  · rw [hb.2.2.1, h8']
    rfl
  · have := hKI.x hX hx (by decide) (by decide)
    exact this
end
