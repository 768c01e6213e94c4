/-! kind() by the desk. -/
theorem KI_push {n i a b : Int} {ks ka kb sz ks' ka' kb' sz' : Int → Int} (h : KI n ks ka kb sz) (hn : n < 40) (hi : i = 3 ∨ i = 4) (ha : 0 ≤ a ∧ a < n) (hb : 0 ≤ b ∧ b < n) (hz : 1 + sz a + sz b ≤ 40) (h1 : ∀ k, ks' k = if k = n then i else ks k) (h2 : ∀ k, ka' k = if k = n then a else ka k) (h3 : ∀ k, kb' k = if k = n then b else kb k) (h4 : ∀ k, sz' k = if k = n then 1 + sz a + sz b else sz k) : KI (n + 1) ks' ka' kb' sz' := by
  obtain ⟨g1, g2, g3⟩ := h
  refine ⟨by omega, fun k k0 k3 => ?_, fun k k3 kn => ?_⟩
  · rw [h1, h2, h3, h4, if_neg (by omega), if_neg (by omega), if_neg (by omega), if_neg (by omega)]
    exact g2 k k0 k3
  · by_cases q : k = n
    · subst q
      rw [h1, h2, h3, h4 k, if_pos rfl, if_pos rfl, if_pos rfl, if_pos rfl, h4 a, h4 b, if_neg (by omega), if_neg (by omega)]
      exact ⟨hi, ha, hb, rfl, hz⟩
    · obtain ⟨q1, q2, q3, q4, q5⟩ := g3 k k3 (by omega)
      rw [h1, h2, h3, h4 k, if_neg q, if_neg q, if_neg q, if_neg q, h4 (ka k), h4 (kb k), if_neg (by omega), if_neg (by omega)]
      exact ⟨q1, q2, q3, q4, q5⟩
theorem vk_told {n m k : Int} (h : vk n m k) : vk (n + 1) m k := by unfold vk at h ⊢; omega
theorem KJ_push {n m i a b : Int} {ks ka kb sz ks' ka' kb' sz' : Int → Int} (h : KJ n m ks ka kb sz) (hn : n < 40) (hi : i = 3 ∨ i = 4) (ha : 0 ≤ a ∧ a < n) (hb : 0 ≤ b ∧ b < n) (hz : 1 + sz a + sz b ≤ 40) (h1 : ∀ k, ks' k = if k = n then i else ks k) (h2 : ∀ k, ka' k = if k = n then a else ka k) (h3 : ∀ k, kb' k = if k = n then b else kb k) (h4 : ∀ k, sz' k = if k = n then 1 + sz a + sz b else sz k) : KJ (n + 1) m ks' ka' kb' sz' := by
  obtain ⟨g1, g2, g3⟩ := h
  refine ⟨KI_push g1 hn hi ha hb hz h1 h2 h3 h4, g2, fun k k40 km => ?_⟩
  obtain ⟨q1, q2, q3, q4, q5⟩ := g3 k k40 km
  have n2 : ka k ≠ n := by unfold vk at q2; omega
  have n3 : kb k ≠ n := by unfold vk at q3; omega
  rw [h1, h2, h3, h4 k, if_neg (by omega), if_neg (by omega), if_neg (by omega), if_neg (by omega), h4 (ka k), h4 (kb k), if_neg n2, if_neg n3]
  exact ⟨q1, vk_told q2, vk_told q3, q4, q5⟩
theorem kt_push {n m : Int} {ks ka kb sz ks' ka' kb' : Int → Int} (h : KJ n m ks ka kb sz) (hn : n < 40) (h1 : ∀ k, k ≠ n → ks' k = ks k ∧ ka' k = ka k ∧ kb' k = kb k) : ∀ k, vk n m k → kt ks' ka' kb' k = kt ks ka kb k := by
  have key : ∀ (q : Nat) (k : Int), vk n m k → kd ks' ka' kb' q k = kd ks ka kb q k := by
    intro q
    induction q with
    | zero => intro k _; rfl
    | succ q ih =>
      intro k hk
      have hkn : k ≠ n := by unfold vk at hk; omega
      obtain ⟨e1, e2, e3⟩ := h1 k hkn
      obtain ⟨a1, a2, a3, a4⟩ := h.at hk
      rw [kd_s, kd_s, e1, e2, e3]
      by_cases h3 : ks k < 3
      · by_cases e0 : ks k = 0
        · rw [if_pos e0, if_pos e0]
        · by_cases e1 : ks k = 1
          · rw [if_neg e0, if_neg e0, if_pos e1, if_pos e1]
          · rw [if_neg e0, if_neg e0, if_neg e1, if_neg e1, if_pos (by omega), if_pos (by omega)]
      · obtain ⟨b1, b2, b3, -⟩ := a4 (by omega)
        rw [ih _ (vk_le b2 hk h.2.1), ih _ (vk_le b3 hk h.2.1)]
  exact fun k hk => key 40 k hk
def kiY : List (Nat × Nat) := [(4, 4)]
def kiR : List Nat := [66, 67, 68, 69]
section
variable {iv : List (Int × Int)} {L : Nat} {h0 : MH} {A A' : Int → Nat} {c e : SC} {s s' w : SM} {t : Term} {d : Nat}
def knS (s : SM) (i a b : Int) : SM := us (ua (ua (ua (ua s 4 (s.1 2) i) 5 (s.1 2) a) 6 (s.1 2) b) 7 (s.1 2) (1 + s.2 7 a + s.2 7 b)) 2 (s.1 2 + 1)
def knC (c : SC) (n i a b z : Int) : SC := uI (uA (uA (uA (uA c 66 n i) 67 n a) 68 n b) 69 n z) 65 4 (n + 1)
theorem knC_x {n i a b z : Int} (hX : FIX c) : CX kiY kiR c (knC c n i a b z) := by
  unfold knC
  refine CX.uI ((((CX.rf.uA (fun _ => ?_)).uA (fun _ => ?_)).uA (fun _ => ?_)).uA (fun _ => ?_)) (fun _ => ?_)
  · unfold rk; rw [if_pos (by decide)]; decide
  · unfold rk; rw [if_pos (by decide)]; decide
  · unfold rk; rw [if_pos (by decide)]; decide
  · unfold rk; rw [if_pos (by decide)]; decide
  · show (ky 65 (kl c 65), 4) ∈ kiY
    rw [hX.dk.2.2.2.2]; decide
theorem R1.kind {i a b : Int} (h : R1 A c s t) (hS : SHT s t) (hB : NB s) (hK : KIs s) (hn : s.1 2 < 40) (hi : i = 3 ∨ i = 4) (ha : 0 ≤ a ∧ a < s.1 2) (hb : 0 ≤ b ∧ b < s.1 2) (hz : 1 + s.2 7 a + s.2 7 b ≤ 40) : R1 A (knC c (s.1 2) i a b (1 + s.2 7 a + s.2 7 b)) (knS s i a b) t ∧ KIs (knS s i a b) ∧ SHT (knS s i a b) t := by
  obtain ⟨⟨hX, hN, hH, hL⟩, ⟨hc, h8⟩, hI, hJ1, hJ2, hJ3⟩ := h
  have h3 := hX.2.2.1
  have hk := hX.dk
  have hx := knC_x (n := s.1 2) (i := i) (a := a) (b := b) (z := 1 + s.2 7 a + s.2 7 b) hX
  have hE : eqx [2] [4, 5, 6, 7] s (knS s i a b) := eqx_us (eqx_ua (eqx_ua (eqx_ua (eqx_ua eqx.rf (by decide)) (by decide)) (by decide)) (by decide)) (by decide)
  have hS' : SHT (knS s i a b) t := hS.x (SX.eq (ey := [2]) (ef := [4, 5, 6, 7]) hE (by decide) (by decide)) (by decide) (by decide)
  have r4 : ∀ k, (knS s i a b).2 4 k = if k = s.1 2 then i else s.2 4 k := fun k => by
    unfold knS; simp only [us_2, ua_2]; rw [if_neg (by omega), if_neg (by omega), if_neg (by omega)]; by_cases q : k = s.1 2 <;> simp [q]
  have r5 : ∀ k, (knS s i a b).2 5 k = if k = s.1 2 then a else s.2 5 k := fun k => by
    unfold knS; simp only [us_2, ua_2]; rw [if_neg (by omega), if_neg (by omega)]; by_cases q : k = s.1 2 <;> simp [q]
  have r6 : ∀ k, (knS s i a b).2 6 k = if k = s.1 2 then b else s.2 6 k := fun k => by
    unfold knS; simp only [us_2, ua_2]; rw [if_neg (by omega)]; by_cases q : k = s.1 2 <;> simp [q]
  have r7 : ∀ k, (knS s i a b).2 7 k = if k = s.1 2 then 1 + s.2 7 a + s.2 7 b else s.2 7 k := fun k => by
    unfold knS; simp only [us_2, ua_2]; by_cases q : k = s.1 2 <;> simp [q]
  have hK' : KIs (knS s i a b) := KI_push hK hn hi ha hb hz r4 r5 r6 r7
  have v4 : fI (knC c (s.1 2) i a b (1 + s.2 7 a + s.2 7 b)) 65 4 = s.1 2 + 1 := by unfold knC; rw [fI_uI, if_pos ⟨rfl, rfl⟩]
  have v5 : fI (knC c (s.1 2) i a b (1 + s.2 7 a + s.2 7 b)) 65 5 = fI c 65 5 := by unfold knC; rw [fI_uI, if_neg (by omega)]; rfl
  have w6 : ∀ k, aI (knC c (s.1 2) i a b (1 + s.2 7 a + s.2 7 b)) 66 k = if k = s.1 2 then i else aI c 66 k := fun k => by
    unfold knC; rw [aI_uI, aI_uA, if_neg (by omega), aI_uA, if_neg (by omega), aI_uA, if_neg (by omega), aI_uA]; by_cases q : k = s.1 2 <;> simp [q]
  have w7 : ∀ k, aI (knC c (s.1 2) i a b (1 + s.2 7 a + s.2 7 b)) 67 k = if k = s.1 2 then a else aI c 67 k := fun k => by
    unfold knC; rw [aI_uI, aI_uA, if_neg (by omega), aI_uA, if_neg (by omega), aI_uA]; by_cases q : k = s.1 2 <;> simp [q, aI_uA]
  have w8 : ∀ k, aI (knC c (s.1 2) i a b (1 + s.2 7 a + s.2 7 b)) 68 k = if k = s.1 2 then b else aI c 68 k := fun k => by
    unfold knC; rw [aI_uI, aI_uA, if_neg (by omega), aI_uA]; by_cases q : k = s.1 2 <;> simp [q, aI_uA]
  have w9 : ∀ k, aI (knC c (s.1 2) i a b (1 + s.2 7 a + s.2 7 b)) 69 k = if k = s.1 2 then 1 + s.2 7 a + s.2 7 b else aI c 69 k := fun k => by
    unfold knC; rw [aI_uI, aI_uA]; by_cases q : k = s.1 2 <;> simp [q, aI_uA]
  obtain ⟨i1, i2⟩ := id hI
  have za := (i2 a ha.1 ha.2).2.2.2
  have zb := (i2 b hb.1 hb.2).2.2.2
  have hJ1' : KJ (s.1 2) (fI c 65 5) (aI c 66) (aI c 67) (aI c 68) (aI c 69) := by have := hJ1; unfold KJc at this; rw [i1] at this; exact this
  have hjd : jdg (knS s i a b) t = jdg s t := jdg_un hS.w hS'.w (fun x _ => by rw [hE.2 9 (by decide), hE.2 10 (by decide), hE.2 11 (by decide)]; exact ⟨rfl, rfl, rfl⟩) (fun x hx q => by
    have hq := (hB x (hS.m _ hx).1 (hS.m _ hx).2).2.2.2 q
    rw [kks_told hq, kks_told (show 0 ≤ s.2 11 x ∧ s.2 11 x < s.1 2 + 1 by omega)]
    exact kt_push (KJ_40 hK) hn (fun k hk => by rw [r4, r5, r6, if_neg hk, if_neg hk, if_neg hk]; exact ⟨rfl, rfl, rfl⟩) _ (Or.inl hq))
  refine ⟨⟨⟨hX.x hx (by decide) (by decide), hN.x hx (by decide) (by decide) (by decide) (by decide) (by decide), ?_, hL.x hN hS.m hX hx (by decide) (by decide) (by decide)⟩, ⟨?_, ?_⟩, ⟨v4, fun k k0 kn => ?_⟩, ⟨?_, by rw [v5]; exact hJ2, fun x hx' => ?_⟩⟩, hK', hS'⟩
  · exact hH.x hN hS.m hX hx (by decide) (by decide) (by decide) (by decide)
  · rw [hx.r (a := 70) (by omega) (by rw [hk.2.1]; decide)]; exact hc
  · rw [hx.i (a := 70) (by omega) (by rw [hk.2.1]; decide)]; exact h8
  · have kn : k < s.1 2 + 1 := kn
    rw [w6, w7, w8, w9, r4, r5, r6, r7]
    by_cases q : k = s.1 2
    · rw [if_pos q, if_pos q, if_pos q, if_pos q, if_pos q, if_pos q, if_pos q, if_pos q]; exact ⟨rfl, rfl, rfl, rfl⟩
    · rw [if_neg q, if_neg q, if_neg q, if_neg q, if_neg q, if_neg q, if_neg q, if_neg q]; exact i2 k k0 (by omega)
  · unfold KJc
    rw [v4, v5]
    exact KJ_push hJ1' hn hi ha hb (by rw [za, zb]; exact hz) w6 w7 w8 (fun k => by rw [w9, za, zb])
  · have hbb := hS.m x hx'
    obtain ⟨⟨n1, n2, n3, n4, n5, n6, n7, n8⟩, n9, n10⟩ := hN.2 x hbb.1 hbb.2
    have ke : ky (A x) (kl c (A x)) = 5 := by rw [ky5 n10, n1]
    have hlt : A x < nxt c := by omega
    have kt' : ∀ k, vkc c k → vkc (knC c (s.1 2) i a b (1 + s.2 7 a + s.2 7 b)) k ∧ ktc (knC c (s.1 2) i a b (1 + s.2 7 a + s.2 7 b)) k = ktc c k := fun k hk' => by
      unfold vkc at hk' ⊢
      rw [i1] at hk'
      rw [v4, v5]
      exact ⟨vk_told hk', kt_push hJ1' hn (fun j hj => by rw [w6, w7, w8, if_neg hj, if_neg hj, if_neg hj]; exact ⟨rfl, rfl, rfl⟩) _ hk'⟩
    obtain ⟨⟨g1, g2⟩, g3, g4⟩ := hJ3 x hx'
    rw [hjd, hx.i hlt (y := 8) (by rw [ke]; decide), hx.i hlt (y := 9) (by rw [ke]; decide), hx.i hlt (y := 10) (by rw [ke]; decide)]
    refine ⟨⟨(kt' _ g1).1, (kt' _ g1).2.trans g2⟩, ?_, g4⟩
    unfold aKc at g3 ⊢
    cases hA : (jdg s t).2.1 x with
    | none => rw [hA] at g3; exact g3
    | some T => rw [hA] at g3; exact ⟨(kt' _ g3.1).1, (kt' _ g3.1).2.trans g3.2⟩
theorem kfind_c {i a b : Int} {F : Int → SC → Prop} (hX : FIX c) (hI : KIc c s) (hK : KIs s) (hF : F (kfs s i a b) c) : ck iv L h0 d 178 [vr 65, vi i, vi a, vi b] c (qi F) := by
  have hk : kl c 65 = 4 ∧ fR c 65 0 = 66 ∧ fR c 65 1 = 67 ∧ fR c 65 2 = 68 ∧ kl c 66 = 100 ∧ kl c 67 = 100 ∧ kl c 68 = 100 ∧ le c 66 = 1440 ∧ le c 67 = 1440 ∧ le c 68 = 1440 := by
    simp only [hX.1]
    exact ⟨trivial, trivial, trivial, trivial, trivial, trivial, trivial, trivial, trivial, trivial⟩
  obtain ⟨d5, f0, f1, f2, g0, g1, g2, l0, l1, l2⟩ := hk
  have hn := hK.1
  have key : ∀ (n : Nat) (k : Int), 3 ≤ k → k ≤ s.1 2 → (s.1 2 - k).toNat = n → kfs s i a b = kfd (s.2 4) (s.2 5) (s.2 6) i a b n k → wk iv L h0 d 178 3 [lr 65, li i, li a, li b, li k] [] c (qi F) := by
    intro n
    induction n with
    | zero =>
      intro k q3 qk qn hf
      have hf : kfs s i a b = -1 := hf
      rw [hf] at hF
      refine C178_3 ⟨d5, fun _ => hF, fun q => ?_⟩
      rw [hI.1] at q
      omega
    | succ n ih =>
      intro k q3 qk qn hf
      obtain ⟨e1, e2, e3, -⟩ := hI.2 k (by omega) (by omega)
      have nx : ¬ (s.2 4 k = i ∧ s.2 5 k = a ∧ s.2 6 k = b) → wk iv L h0 d 178 3 [lr 65, li i, li a, li b, li (k + 1)] [] c (qi F) := fun e => by
        unfold kfd at hf
        rw [if_neg e] at hf
        exact ih (k + 1) (by omega) (by omega) (by omega) hf
      refine C178_3 ?_
      rw [hI.1, f0, f1, f2, g0, g1, g2, l0, l1, l2, e1, e2, e3]
      refine ⟨d5, fun q => by omega, fun _ => ⟨rfl, by omega, fun z => ⟨by omega, nx (fun q => z q.1)⟩, fun z => ⟨rfl, by omega, fun z2 => ⟨by omega, nx (fun q => z2 q.2.1)⟩, fun z2 => ⟨rfl, by omega, fun z3 => ⟨by omega, nx (fun q => z3 q.2.2)⟩, fun z3 => ?_⟩⟩⟩⟩
      unfold kfd at hf
      rw [if_pos ⟨z, z2, z3⟩] at hf
      rw [hf] at hF
      exact hF
  exact C178 (key _ 3 (by omega) (by omega) rfl rfl)
end
