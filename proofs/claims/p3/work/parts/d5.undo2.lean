/-! undo() by the desk, whole. -/
def unY : List (Nat × Nat) := (5, 12) :: acY
def UND (A : Int → Nat) (c : SC) (s : SM) (e : SC) (u : Snap) (K0 : List Snap) : Prop := R1 A e (unS s u) u.1 ∧ CX unY acR c e ∧ RMk 0 0 c e ∧ KSc A e K0 ∧ fI e 64 15 = 1 ∧ FL2 A c e (fl u.1)
section
variable {iv : List (Int × Int)} {L : Nat} {h0 : MH} {A A' : Int → Nat} {c e : SC} {s s' w : SM} {t : Term} {d : Nat} {P : Int → Prop} {Q : Int → Int → Prop} {K : List Snap}
theorem mod19 {n : Int} (h0 : 0 ≤ n) (h1 : n < 20) : (n + 20 - 1).tdiv 20 = (if n = 0 then 0 else 1) ∧ (n + 20 - 1) - (n + 20 - 1).tdiv 20 * 20 = if n = 0 then 19 else n - 1 := by
  have e : (n + 20 - 1).tdiv 20 = (n + 20 - 1) / 20 := Int.tdiv_eq_ediv_of_nonneg (by omega)
  rw [e]
  by_cases q : n = 0
  · subst q; decide
  · rw [if_neg q, if_neg q]; omega
theorem unS_sht {u : Snap} (hK : KP s u) (hB : 0 ≤ s.1 8 ∧ s.1 8 ≤ 3000) : SHT (unS s u) u.1 := by
  obtain ⟨⟨p1, p2, p3, p4⟩, p5, p6, p7, p8⟩ := hK
  have e9 : (unS s u).2 9 = s.2 9 := by
    funext y
    show (if (9 : Nat) = 10 ∧ y ∈ fl u.1 then u.2.2 10 y else s.2 9 y) = s.2 9 y
    rw [if_neg (by omega)]
  refine ⟨?_, ?_, p3, p4, hB, rfl, p6, p7⟩
  · show AT ((unS s u).2 9) (u.2.2 14) (u.2.2 12) (u.2.2 13) (s.1 8) u.1
    rw [e9]; exact p1
  · show full ((unS s u).2 9) u.1
    rw [e9]; exact p2
theorem unS_aft {u : Snap} (hN : NB s) (hK : KP s u) (hB : 0 ≤ s.1 8 ∧ s.1 8 ≤ 3000) : AFT (unS s u) u.1 :=
  undo_aft hN hB.2 hK ⟨fun _ _ _ => rfl, fun f _ hf i _ => by
    show (if f = 12 ∨ f = 13 ∨ f = 14 then u.2.2 f else (undU s u).2 f) i = (undU s u).2 f i
    rw [if_neg (fun q => hf (by simp; omega))]⟩ (unS_sht hK hB)
theorem unS_o {u : Snap} {f : Nat} (h : f ≠ 10 ∧ f ≠ 12 ∧ f ≠ 13 ∧ f ≠ 14) : (unS s u).2 f = s.2 f := by
  funext y
  show (if f = 12 ∨ f = 13 ∨ f = 14 then u.2.2 f else (undU s u).2 f) y = s.2 f y
  rw [if_neg (by omega)]
  show (if f = 10 ∧ y ∈ fl u.1 then u.2.2 10 y else s.2 f y) = s.2 f y
  rw [if_neg (by omega)]
theorem bb_op {u : Snap} {f : SC} {st : SM} (hK : KP s u) (hB : 0 ≤ s.1 8 ∧ s.1 8 ≤ 3000) (hO : OP A f st (fun x => x ∈ fl u.1) (fun b j => ∃ x, x ∈ fl u.1 ∧ x ≠ hd u.1 ∧ b = u.2.2 12 x ∧ j = u.2.2 13 x)) (hb : BB s st u (fl u.1)) : OP A f (unS s u) (fun x => x ∈ fl u.1) (fun b i => b ∈ fl u.1 ∧ 0 ≤ i ∧ i < pO (s.2 9 b)) := by
  obtain ⟨⟨p1, p2, p3, p4⟩, p5, p6, p7, p8⟩ := hK
  obtain ⟨b1, b2, b3, b4⟩ := hb
  obtain ⟨⟨hX, hN, hI⟩, ⟨hL, hP⟩, ⟨ht, h8, ht0, ht8⟩, hKI, hB8⟩ := hO
  have e8 : st.1 8 = s.1 8 := b1.1 8 (by decide)
  have lt : ∀ y, y ∈ fl u.1 → 0 ≤ y ∧ y < s.1 8 := fun y hy => (AT_mem u.1 p1 y hy).1
  have hh := hd_mem u.1 p1
  have kid : ∀ x i, x ∈ fl u.1 → 0 ≤ i → i < pO (s.2 9 x) → u.2.2 14 (3 * x + i) ∈ fl u.1 ∧ u.2.2 12 (u.2.2 14 (3 * x + i)) = x ∧ u.2.2 13 (u.2.2 14 (3 * x + i)) = i ∧ u.2.2 14 (3 * x + i) ≠ hd u.1 := fun x i hx i0 i1 => by
    have m := (AT_mem u.1 p1 x hx).2.2.1 i i0 i1 (fun q => by have := p2; unfold full at this; rw [this, ← q]; exact i1)
    refine ⟨m.1, m.2.1, m.2.2, fun q => ?_⟩
    have := m.2.1
    rw [q, p6] at this
    have := (lt x hx).1
    omega
  refine ⟨⟨hX, ?_, ⟨fun b hb => ⟨lt b hb, ?_⟩, fun b i hb => ⟨lt b hb.1, ⟨hb.2.1, ?_⟩, ?_⟩⟩⟩, ⟨fun b hb => ?_, fun b i hb => ?_⟩, ⟨?_, ?_, (lt _ hh).1, (lt _ hh).2⟩, ?_, hB⟩
  · refine ⟨fun b hb => hN.1 b (by rw [e8]; exact hb), fun b b0 b1' => ?_⟩
    have := hN.2 b b0 (by rw [e8]; exact b1')
    rw [b1.2 9 (by decide), b1.2 11 (by decide), b2] at this
    have e10 : (unS s u).2 10 b = if b ∈ fl u.1 then u.2.2 10 b else s.2 10 b := by
      show (if (10 : Nat) = 12 ∨ (10 : Nat) = 13 ∨ (10 : Nat) = 14 then u.2.2 10 else (undU s u).2 10) b = _
      rw [if_neg (by omega)]
      show (if (10 : Nat) = 10 ∧ b ∈ fl u.1 then u.2.2 10 b else s.2 10 b) = _
      by_cases q : b ∈ fl u.1
      · rw [if_pos ⟨rfl, q⟩, if_pos q]
      · rw [if_neg (fun w => q w.2), if_neg q]
    rw [unS_o (f := 9) (by decide), unS_o (f := 11) (by decide), e10]
    exact this
  · show u.2.2 12 b = -9 ∨ (0 ≤ u.2.2 12 b ∧ u.2.2 12 b < s.1 8)
    by_cases q : b = hd u.1
    · left; rw [q]; exact p6
    · right; exact lt _ ((AT_mem u.1 p1 b hb).2.2.2 q).1
  · rw [unS_o (by decide)]; exact hb.2.2
  · exact lt _ (kid b i hb.1 hb.2.1 hb.2.2).1
  · obtain ⟨g1, g2⟩ := b3 b hb
    obtain ⟨l1, l2⟩ := hL b hb
    refine ⟨by rw [l1, g1]; rfl, fun q => ?_⟩
    have q : u.2.2 12 b ≠ -9 := q
    have hbh : b ≠ hd u.1 := fun w => q (by rw [w]; exact p6)
    rw [l2 (by rw [g1]; exact q), (g2 hbh).1]
    rfl
  · obtain ⟨k1, k2, k3, k4⟩ := kid b i hb.1 hb.2.1 hb.2.2
    have := hP b i ⟨_, k1, k4, k2.symm, k3.symm⟩
    rw [this]
    have g := ((b3 _ k1).2 k4).2
    rw [k2, k3] at g
    rw [g]
    rfl
  · rw [ht, b4 hh]; rfl
  · rw [h8, e8]; rfl
  · unfold KIc at hKI ⊢
    rw [b1.1 2 (by decide), b1.2 4 (by decide), b1.2 5 (by decide), b1.2 6 (by decide), b1.2 7 (by decide)] at hKI
    rw [unS_o (by decide), unS_o (by decide), unS_o (by decide), unS_o (by decide)]
    exact hKI
theorem undo_c {F : Int → SC → Prop} (h1 : R1 A c s t) (hT : AFT s t) (hK : KIs s) (hKS : KSc A c K) (hKP : ∀ u, u ∈ K → KP s u) (hD : 300 ≤ d) (H1 : K = [] → F (-4) c) (H2 : ∀ K0 u, K = K0 ++ [u] → ∀ e, UND A c s e u K0 → F K0.length e) : ck iv L h0 d 21 [vr 64] c (qi F) := by
  obtain ⟨d, rfl⟩ : ∃ k, d = k + 1 + 1 + 1 := ⟨d - 3, by omega⟩
  obtain ⟨⟨d1, d2, d3, d4, d5⟩, e1, e2, e3, e4, e5, e6⟩ := h1.cur hT
  have hS := hT.1
  have hB := hS.2.2.2.2.1
  have h353 := h1.1.1.2.2.1
  obtain ⟨⟨k1, k2, k3, k4⟩, k5⟩ := id hKS
  refine C21 ?_
  rw [d3, k1]
  refine ⟨d1, d2, fun hne => ?_, fun he => H1 (by
    cases K with
    | nil => rfl
    | cons a r => simp at he; omega)⟩
  have hKne : K ≠ [] := fun q => hne (by rw [q]; rfl)
  obtain ⟨K0, u, hKK⟩ : ∃ K0 u, K = K0 ++ [u] := ⟨K.dropLast, K.getLast hKne, (List.dropLast_concat_getLast hKne).symm⟩
  have hu : K[K0.length]? = some u := by rw [hKK]; simp
  have hlen : K.length = K0.length + 1 := by rw [hKK]; simp
  have hKu := hKP u (by rw [hKK]; simp)
  have hSn := k5 _ u hu
  have H3 := H2 K0 u hKK
  obtain ⟨m1, m2⟩ := mod19 k3 k4
  generalize hn : fI c 70 6 = n at *
  have hpos : pos n K.length K0.length = n.toNat := by unfold pos; omega
  rw [hpos] at hSn
  have hi : n.toNat < 20 := by omega
  have hni : ((n.toNat : Nat) : Int) = n := by omega
  have hk : fR c 70 5 = 72 ∧ kl c 72 = 104 ∧ le c 72 = 20 := by simp only [h1.1.1.1]; exact ⟨trivial, trivial, trivial⟩
  obtain ⟨p1, p2, -⟩ := h1.1.1.2.1.1 n.toNat hi
  rw [hni] at p1
  refine C220 ⟨d2, ?_⟩
  rw [hn, hk.1, hk.2.1, hk.2.2, p1, p2]
  have hO0 : OP A c s (fun _ => False) (fun _ _ => False) := op_mo (op_of h1 hS) (fun _ q => q.elim) (fun _ _ q => q.elim)
  refine ⟨rfl, by omega, rfl, bring_ok hi hO0 hKu hSn (fun f st hOf hBB hfl hxf hrf => ?_)⟩
  have hOv := bb_op hKu hB hOf hBB
  have hXf := hOf.1.1
  obtain ⟨a1, a2, a3, -⟩ := hXf.dk
  have f6 : fI (uR f 70 2 (A (u.2.1 16))) 70 6 = n := by rw [fI_uR, hxf.i (a := 70) (by omega) (by rw [d2]; decide)]; exact hn
  have f7 : fI (uR f 70 2 (A (u.2.1 16))) 70 7 = K.length := by rw [fI_uR, hxf.i (a := 70) (by omega) (by rw [d2]; decide)]; exact k1
  rw [f6, f7, m2, m1]
  refine ⟨a2, by omega, by omega, by split <;> omega, by split <;> omega, by omega, d1 |> fun _ => by rw [kl_uI, kl_uI, kl_uR]; exact a1, ?_⟩
  generalize hc5 : uI (uI (uR f 70 2 (A (u.2.1 16))) 70 6 (if n = 0 then 19 else n - 1)) 70 7 ((K.length : Int) - 1) = c5
  have hx5 : CX [(8, 2), (8, 6), (8, 7)] [] f c5 := by
    rw [← hc5]
    exact ((CX.rf.uR (fun _ => by rw [a2]; decide)).uI (fun _ => by rw [kl_uR, a2]; decide)).uI (fun _ => by rw [kl_uI, kl_uR, a2]; decide)
  have hO5 := op_x hOv hx5 (by decide) (by decide) (by decide) (by decide) ⟨by decide, by decide, by decide, by decide⟩ ⟨by decide, by decide, by decide, by decide⟩
  have hcur : fR c5 70 2 = A ((unS s u).1 16) := by
    rw [← hc5, fR_uI, fR_uI, fR_uR, if_pos ⟨rfl, rfl⟩]; rfl
  have hKI : KIs (unS s u) := KIs_e hK rfl ⟨unS_o (by decide), unS_o (by decide), unS_o (by decide), unS_o (by decide)⟩
  have n6 : fI c5 70 6 = if n = 0 then 19 else n - 1 := by rw [← hc5, fI_uI, if_neg (by omega), fI_uI, if_pos ⟨rfl, rfl⟩]
  have n7 : fI c5 70 7 = (K.length : Int) - 1 := by rw [← hc5, fI_uI, if_pos ⟨rfl, rfl⟩]
  have hK5 : KSc A c5 K0 := by
    have h0' : KSc A f K := hKS.x h1.1.1 EXT.rf hB.1 hKP hxf (by decide) (by decide)
    obtain ⟨⟨q1, q2, q3, q4⟩, q5⟩ := h0'
    have f6' : fI f 70 6 = n := f6
    rw [f6'] at q5
    refine ⟨⟨by rw [n7]; omega, by omega, by rw [n6]; split <;> omega, by rw [n6]; split <;> omega⟩, fun j w hj => ?_⟩
    have hjl : j < K0.length := (List.getElem?_eq_some_iff.mp hj).1
    have := q5 j w (by rw [hKK, List.getElem?_append_left hjl]; exact hj)
    have hp : pos (fI c5 70 6) K0.length j = pos n K.length j := by
      rw [n6]; unfold pos; split <;> omega
    rw [hp]
    refine this.up ⟨?_, ?_⟩ ⟨?_, ?_, ?_, ?_⟩
    · rw [← hc5, fI_uI, if_neg (by omega), fI_uI, if_neg (by omega), fI_uR]
    · rw [← hc5, fR_uI, fR_uI, fR_uR, if_neg (by omega)]
    · rw [← hc5]; rfl
    · rw [← hc5]; rfl
    · rw [← hc5]; rfl
    · rw [← hc5]; rfl
  have hX5 := hO5.1.1
  have hb8' : (unS s u).1 8 = s.1 8 := rfl
  have hr5 : RMk 0 0 f c5 := by rw [← hc5]; exact RMk.rf
  refine changed0_ok hO5 hcur (unS_aft hT.2.1 hKu hB) hKI (fun x hx => hx) (fun x i hx i0 i1 => ⟨hx, i0, by rw [unS_o (by decide)] at i1; exact i1⟩) (by omega) (fun e g1 g2 g3 g4 => ?_)
  obtain ⟨z1, z2, z3, -⟩ := g1.1.1.dk
  have hKe : KSc A e K0 := hK5.x hX5 EXT.rf hB.1 (fun w hw => hKP w (by rw [hKK]; exact List.mem_append_left _ hw)) g2 (by decide) (by decide)
  refine ⟨z1, by rw [z3]; exact z2, ?_⟩
  rw [z3, hKe.1.1]
  refine H3 e ⟨g1, ?_, ((hrf.tr hr5).tr g3).up (by decide) (by decide), hKe, g4, fun x hx => ?_, fun a ha => ?_⟩
  · refine (hxf.up (by decide) (fun y hy => by simp at hy; subst hy; simp [acR])).tr ((hx5.up (by decide) (fun _ q => by cases q)).tr ((cxa_t g2).up (fun y hy => List.mem_cons_of_mem _ hy) (fun _ q => q)))
  · have hxB := (AT_mem u.1 hKu.1.1 x hx).1
    obtain ⟨⟨y1, y2, y3, y4, y5, y6, y7, y8⟩, y9, y10⟩ := hO5.1.2.1.2 x hxB.1 hxB.2
    rw [g2.r (by omega) (by rw [ky5 y10, y1]; decide), ← hc5, fR_uI, fR_uI, fR_uR, if_neg (by omega)]
    exact hfl.1 x hx
  · have ha1 : a < nxt f := Nat.lt_of_lt_of_le ha hxf.n
    have ha2 : a < nxt c5 := Nat.lt_of_lt_of_le ha1 hx5.n
    rw [g2.r ha2 (by unfold tyY sys; simp), hx5.r ha1 (by simp)]
    exact hfl.2 a ha
end
