/-! undo(). -/
def undU (s : SM) (u : Snap) : SM := (fun y => if y = 15 then hd u.1 else if y = 16 then u.2.1 16 else if y = 35 then 1 else s.1 y, fun f y => if f = 10 ∧ y ∈ fl u.1 then u.2.2 10 y else s.2 f y)
/-- halfway: some nodes are as they were, some links are made again -/
def UM (s x : SM) (u : Snap) (p : List Int) (P : Int → Prop) : Prop := eqx [24] [10, 12, 13, 14] s x ∧ (∀ y, x.2 10 y = if y ∈ p then u.2.2 10 y else s.2 10 y) ∧ (∀ y, P y → x.2 12 y = u.2.2 12 y ∧ x.2 13 y = u.2.2 13 y) ∧ (∀ y, y ∈ p → ∀ j, 0 ≤ j → j < pO (s.2 9 y) → x.2 14 (3 * y + j) = u.2.2 14 (3 * y + j))
section
variable {iv : List (Int × Int)} {L : Nat} {h0 : MH} {s : SM} {t : Term} {d : Nat}
theorem undo_ok {F : Int → SM → Prop} {K : List Snap} (hK : KL s K) (hB : 0 ≤ s.1 8 ∧ s.1 8 ≤ 3000) (H1 : K = [] → F (-4) s) (H2 : ∀ (K0 : List Snap) (u : Snap) (v : SM), K = K0 ++ [u] → SX [24] [12, 13, 14] (undU s u) v → SHT v u.1 → KL v K0 → F K0.length v) : cm iv L h0 (d + 1) 101 [vr 307] s (qi F) := by
  obtain ⟨k1, k2, k3⟩ := id hK
  refine B101 ⟨fun e => ?_, fun e => H1 (List.length_eq_zero_iff.mp (by omega))⟩
  have hlen : 0 < K.length := by omega
  obtain ⟨K0, u, rfl⟩ : ∃ K0 u, K = K0 ++ [u] := ⟨K.dropLast, K.getLast (fun q => by rw [q] at hlen; exact absurd hlen (by decide)), (List.dropLast_concat_getLast _).symm⟩
  have hl : (K0 ++ [u]).length = K0.length + 1 := by simp
  have e24 : s.1 24 - 1 = K0.length := by omega
  obtain ⟨⟨r1, r2, r3⟩, hP⟩ := k3 K0.length u (by simp)
  obtain ⟨⟨p1, p2, p3, p4⟩, p5, p6, p7, p8⟩ := hP
  refine ⟨by omega, ?_⟩
  rw [e24]
  have hmem := AT_mem u.1 p1
  -- what is written of a node's place among the births
  have hfin : ∀ x, UM s x u (fl u.1) (fun y => y ∈ fl u.1 ∧ y ≠ hd u.1) → x.1 24 = K0.length → F K0.length (us (us (ua (ua (us x 15 (hd u.1)) 12 (hd u.1) (-9)) 13 (hd u.1) (-9)) 16 (u.2.1 16)) 35 1) := fun x hx h24 => by
    obtain ⟨x1, x2, x3, x4⟩ := hx
    refine H2 K0 u _ rfl ⟨fun y a1 a2 => ?_, fun f a1 a2 i a3 => ?_⟩ ?_ ?_
    · show (if y = 35 then 1 else if y = 16 then u.2.1 16 else if y = 15 then hd u.1 else x.1 y) = if y = 15 then hd u.1 else if y = 16 then u.2.1 16 else if y = 35 then 1 else s.1 y
      rw [x1.1 y a2]
      by_cases e1 : y = 35
      · subst e1; rfl
      · rw [if_neg e1]
        by_cases e2 : y = 16
        · subst e2; rfl
        · rw [if_neg e2, if_neg e2, if_neg e1]
    · simp at a2
      show (us (us (ua (ua (us x 15 (hd u.1)) 12 (hd u.1) (-9)) 13 (hd u.1) (-9)) 16 (u.2.1 16)) 35 1).2 f i = if f = 10 ∧ i ∈ fl u.1 then u.2.2 10 i else s.2 f i
      simp only [us_2, ua_2]
      rw [if_neg (by omega), if_neg (by omega)]
      by_cases e1 : f = 10
      · subst e1
        rw [x2]
        by_cases e2 : i ∈ fl u.1
        · rw [if_pos e2, if_pos ⟨rfl, e2⟩]
        · rw [if_neg e2, if_neg (fun q => e2 q.2)]
      · rw [if_neg (fun q => e1 q.1), x1.2 f (by simp; omega)]
    · have hm := hd_mem _ p1
      have e8 : x.1 8 = s.1 8 := x1.1 8 (by decide)
      have e9 : x.2 9 = s.2 9 := x1.2 9 (by decide)
      refine ⟨AT_cg (by show s.1 8 ≤ x.1 8; omega) _ p1 p3 (fun y hy => ⟨?_, fun j j0 j1 _ => ?_⟩) (fun y hy hne => ?_), ?_, p3, p4, by show 0 ≤ x.1 8 ∧ x.1 8 ≤ 3000; omega, rfl, ?_, ?_⟩
      · show x.2 9 y = s.2 9 y
        rw [e9]
      · exact x4 y hy j j0 j1
      · simp only [us_2, ua_2]
        rw [if_neg (by omega), if_neg (by omega), if_neg (by omega), if_neg (by omega)]
        exact x3 y ⟨hy, hne⟩
      · show na u.1 = pO (x.2 9 (hd u.1))
        rw [e9]
        exact p2
      · simp [us_2, ua_2]
      · simp [us_2, ua_2]
    · refine ⟨h24, by have := k2; omega, fun i w hi => ?_⟩
      obtain ⟨q1, q2⟩ := k3 i w (by rw [List.getElem?_append_left (List.getElem?_eq_some_iff.mp hi).1]; exact hi)
      have e9 : x.2 9 = s.2 9 := x1.2 9 (by decide)
      have rr : ∀ f, f ≠ 10 ∧ f ≠ 12 ∧ f ≠ 13 ∧ f ≠ 14 → (us (us (ua (ua (us x 15 (hd u.1)) 12 (hd u.1) (-9)) 13 (hd u.1) (-9)) 16 (u.2.1 16)) 35 1).2 f = s.2 f := fun f hf => by
        funext j
        simp only [us_2, ua_2]
        rw [if_neg (by omega), if_neg (by omega), x1.2 f (by simp; omega)]
      refine ⟨KR_cg q1 q2.1.2.2.2 (by rw [rr 25 (by decide)]) (by rw [rr 26 (by decide)]) (fun y _ => by rw [rr 9 (by decide)]) (fun j _ _ => ⟨by rw [rr 27 (by decide)], by rw [rr 28 (by decide)]⟩) (fun j _ _ => by rw [rr 29 (by decide)]), KP_up q2 (by show s.1 8 ≤ x.1 8; rw [x1.1 8 (by decide)]; exact Int.le_refl _) (fun y _ _ => by rw [rr 9 (by decide)])⟩
  -- the links of one node
  have inner : ∀ (p m : List Int) (b : Int) (G : SM → Prop), fl u.1 = p ++ b :: m → (∀ x, UM s x u (p ++ [b]) (fun y => y ∈ fl u.1 ∧ y ≠ hd u.1 ∧ u.2.2 12 y ∈ p ++ [b]) → x.1 24 = K0.length → wm iv L h0 (d + 1) 101 22 [lr 307, li (p.length + 1)] [] x (qi F)) →
      ∀ (n : Nat) (i : Int) (x : SM), 0 ≤ i → i + n = pO (s.2 9 b) → eqx [24] [10, 12, 13, 14] s x → (∀ y, x.2 10 y = if y ∈ p ++ [b] then u.2.2 10 y else s.2 10 y) → (∀ y, (y ∈ fl u.1 ∧ y ≠ hd u.1 ∧ (u.2.2 12 y ∈ p ∨ (u.2.2 12 y = b ∧ u.2.2 13 y < i))) → x.2 12 y = u.2.2 12 y ∧ x.2 13 y = u.2.2 13 y) → (∀ y, y ∈ p → ∀ j, 0 ≤ j → j < pO (s.2 9 y) → x.2 14 (3 * y + j) = u.2.2 14 (3 * y + j)) → (∀ j, 0 ≤ j → j < i → x.2 14 (3 * b + j) = u.2.2 14 (3 * b + j)) → x.1 24 = K0.length →
      wm iv L h0 (d + 1) 101 72 [lr 307, li p.length, li b, li i] [] x (qi F) := by
    intro p m b G e hnx n
    have hb : b ∈ fl u.1 := by rw [e]; simp
    have hbl := (hmem b hb).1
    have hpl : (p.length : Int) < 60 := by
      have := p4
      rw [e] at this
      simp at this
      omega
    have hbp : b ∉ p := fun q => by
      rw [e] at p3
      exact (List.nodup_append.mp p3).2.2 b q b (List.mem_cons_self ..) rfl
    induction n with
    | zero =>
      intro i x i0 hi x1 x2 x3 x4 x5 x6
      have e9 : x.2 9 = s.2 9 := x1.2 9 (by decide)
      have m9 := (hmem b hb).2.1
      refine B101_72 ⟨by omega, by rw [e9]; exact m9, fun _ => ⟨by omega, hnx x ⟨x1, x2, fun y hy => x3 y ⟨hy.1, hy.2.1, ?_⟩, fun y hy => ?_⟩ x6⟩, fun q => by rw [e9] at q; omega⟩
      · rcases List.mem_append.mp hy.2.2 with q | q
        · exact Or.inl q
        · have q := List.mem_singleton.mp q
          obtain ⟨z1, z2, z3⟩ := (hmem y hy.1).2.2.2 hy.2.1
          rw [q] at z2
          exact Or.inr ⟨q, by omega⟩
      · rcases List.mem_append.mp hy with q | q
        · exact x4 y q
        · rw [List.mem_singleton.mp q]
          exact fun j j0 j1 => x5 j j0 (by omega)
    | succ n ih =>
      intro i x i0 hi x1 x2 x3 x4 x5 x6
      have e9 : x.2 9 = s.2 9 := x1.2 9 (by decide)
      have m9 := (hmem b hb).2.1
      have hpo := pO_in (s.2 9 b)
      refine B101_72 ⟨by omega, by rw [e9]; exact m9, fun q => by rw [e9] at q; omega, fun _ => ?_⟩
      obtain ⟨c1, c2, c3⟩ := (hmem b hb).2.2.1 i i0 (by omega) (fun q => by have := p2; unfold full at this; rw [this, ← q]; omega)
      have hcl := (hmem _ c1).1
      -- what is kept of this part
      have e29 : x.2 29 (240 * (K0.length : Int) + 3 * p.length + i) = u.2.2 14 (3 * b + i) := by
        rw [x1.2 29 (by decide)]
        have := (r3 p.length b (by rw [e]; simp)).2.2 i i0 (by omega)
        rw [← this]
        show s.2 29 _ = s.2 29 (240 * (K0.length : Int) + (3 * (p.length : Int) + i))
        rw [show 240 * (K0.length : Int) + 3 * (p.length : Int) + i = 240 * (K0.length : Int) + (3 * (p.length : Int) + i) by omega]
      rw [x6]
      have hk20 : (K0.length : Int) < 20 := by omega
      rw [e29]
      refine ⟨by omega, by omega, by omega, by omega, by omega, setPart_ok (by omega) (by omega) (by omega) ⟨by omega, ?_⟩⟩
      have pe := partU_e (s := x) (b := b) (i := i) (c := u.2.2 14 (3 * b + i))
      refine ih (i + 1) (partU x b i (u.2.2 14 (3 * b + i))) (by omega) (by omega) (x1.tr (pe.up (fun _ q => by cases q) (fun y q => by simp at q ⊢; omega))) (fun y => by rw [pe.2 10 (by decide)]; exact x2 y) (fun y hy => ?_) (fun y hy j j0 j1 => ?_) (fun j j0 j1 => ?_) x6
      · by_cases ey : y = u.2.2 14 (3 * b + i)
        · subst ey
          rw [c2, c3]
          obtain ⟨-, q1, q2⟩ := partU_at (s := x) (b := b) (i := i) (c := u.2.2 14 (3 * b + i))
          exact ⟨q1, q2⟩
        · have hne : (partU x b i (u.2.2 14 (3 * b + i))).2 12 y = x.2 12 y ∧ (partU x b i (u.2.2 14 (3 * b + i))).2 13 y = x.2 13 y := by
            simp [partU, ua_2, ey]
          rw [hne.1, hne.2]
          refine x3 y ⟨hy.1, hy.2.1, ?_⟩
          rcases hy.2.2 with q | ⟨q1, q2⟩
          · exact Or.inl q
          · refine Or.inr ⟨q1, ?_⟩
            obtain ⟨z1, z2, z3⟩ := (hmem y hy.1).2.2.2 hy.2.1
            by_cases q3 : u.2.2 13 y = i
            · exfalso
              rw [q1, q3] at z3
              exact ey z3.symm
            · omega
      · have hyb : y ≠ b := fun q => hbp (by rw [← q]; exact hy)
        have := pO_in (s.2 9 y)
        unfold partU
        rw [ua_2, if_neg (by omega), ua_2, if_neg (by omega), ua_2, if_neg (by omega)]
        exact x4 y hy j j0 j1
      · unfold partU
        rw [ua_2, if_neg (by omega), ua_2, if_neg (by omega), ua_2]
        by_cases q : j = i
        · rw [if_pos ⟨rfl, by omega⟩, q]
        · rw [if_neg (by omega)]
          exact x5 j j0 (by omega)
  have outer : ∀ (m p : List Int) (x : SM), fl u.1 = p ++ m → UM s x u p (fun y => y ∈ fl u.1 ∧ y ≠ hd u.1 ∧ u.2.2 12 y ∈ p) → x.1 24 = K0.length → wm iv L h0 (d + 1) 101 22 [lr 307, li p.length] [] x (qi F) := by
    intro m
    induction m with
    | nil =>
      intro p x e hx h24
      have ep : p = fl u.1 := by rw [e]; simp
      have e25 : x.2 25 K0.length = (fl u.1).length := by rw [hx.1.2 25 (by decide)]; exact r1
      have hk20 : (K0.length : Int) < 20 := by omega
      have h27 : x.2 27 (80 * (K0.length : Int)) = hd u.1 := by
        rw [hx.1.2 27 (by decide)]
        obtain ⟨r, er⟩ := fl_hd _ p1
        have := (r3 0 (hd u.1) (by rw [er]; rfl)).1
        rw [← this]
        show s.2 27 _ = s.2 27 (80 * (K0.length : Int) + ((0 : Nat) : Int))
        rw [show 80 * (K0.length : Int) + ((0 : Nat) : Int) = 80 * (K0.length : Int) by omega]
      have hm := (hmem _ (hd_mem _ p1)).1
      refine B101_22 ⟨by omega, fun q => ?_, fun q => by rw [h24, e25, ep] at q; omega⟩
      rw [h24, h27, show x.2 26 K0.length = u.2.1 16 from by rw [hx.1.2 26 (by decide)]; exact r2]
      refine ⟨by omega, by omega, by omega, hfin x ⟨hx.1, by rw [← ep]; exact hx.2.1, fun y hy => hx.2.2.1 y ⟨hy.1, hy.2, ?_⟩, by rw [← ep]; exact hx.2.2.2⟩ h24⟩
      rw [ep]
      exact ((hmem y hy.1).2.2.2 hy.2).1
    | cons b m ih =>
      intro p x e hx h24
      have hb : b ∈ fl u.1 := by rw [e]; simp
      have hbl := (hmem b hb).1
      have hpl : p.length < 60 ∧ p.length < (fl u.1).length := by
        have := p4
        rw [e] at this ⊢
        simp at this ⊢
        omega
      have hk20 : (K0.length : Int) < 20 := by omega
      have e25 : x.2 25 K0.length = (fl u.1).length := by rw [hx.1.2 25 (by decide)]; exact r1
      obtain ⟨s1, s2, s3⟩ := r3 p.length b (by rw [e]; simp)
      have e27 : x.2 27 (80 * (K0.length : Int) + p.length) = b := by rw [hx.1.2 27 (by decide)]; exact s1
      have e28 : x.2 28 (80 * (K0.length : Int) + p.length) = u.2.2 10 b := by rw [hx.1.2 28 (by decide)]; exact s2
      refine B101_22 ⟨by omega, fun q => by rw [h24, e25] at q; omega, fun q => ?_⟩
      rw [h24, e27, e28]
      refine ⟨by omega, by omega, by omega, by omega, ?_⟩
      have e' := e
      rw [app1] at e'
      have e1 : ((p ++ [b]).length : Int) = p.length + 1 := by simp
      refine inner p m b (fun _ => True) e (fun y hy h24' => ?_) (pO (s.2 9 b)).toNat 0 _ (by omega) (by have := pO_in (s.2 9 b); omega) (eqx_ua hx.1 (by decide)) (fun y => ?_) (fun y hy => ?_) (fun y hy j j0 j1 => hx.2.2.2 y hy j j0 j1) (fun j j0 j1 => by omega) h24
      · have := ih (p ++ [b]) y e' hy h24'
        rw [e1] at this
        exact this
      · rw [ua_2]
        by_cases q : y = b
        · rw [if_pos ⟨rfl, q⟩, if_pos (by rw [q]; simp), q]
        · rw [if_neg (by omega), hx.2.1]
          by_cases q2 : y ∈ p
          · rw [if_pos q2, if_pos (List.mem_append_left _ q2)]
          · rw [if_neg q2, if_neg (by simp [q2, q])]
      · refine hx.2.2.1 y ⟨hy.1, hy.2.1, ?_⟩
        rcases hy.2.2 with q | ⟨q1, q2⟩
        · exact q
        · obtain ⟨z1, z2, z3⟩ := (hmem y hy.1).2.2.2 hy.2.1
          omega
  refine outer (fl u.1) [] _ rfl ⟨eqx_us eqx.rf (by decide), fun y => by rw [if_neg (by simp)]; rfl, fun y hy => absurd hy.2.2 (by simp), fun y hy => absurd hy (by simp)⟩ rfl
theorem undo_aft {u : Snap} {v : SM} (hN : NB s) (h8 : s.1 8 ≤ 3000) (hP : KP s u) (hx : SX [24] [12, 13, 14] (undU s u) v) (hT : SHT v u.1) : AFT v u.1 := by
  refine ⟨hT, fun x x0 x1 => ?_, by rw [hx.1 16 (by decide) (by decide)]; exact hP.2.1⟩
  have e8 : v.1 8 = s.1 8 := hx.1 8 (by decide) (by decide)
  rw [e8] at x1
  have hi : ∀ f, f = 9 ∨ f = 10 ∨ f = 11 → ¬ scI f x := fun f q => by unfold scI; omega
  rw [hx.2 9 (by decide) (by decide) x (hi 9 (by decide)), hx.2 10 (by decide) (by decide) x (hi 10 (by decide)), hx.2 11 (by decide) (by decide) x (hi 11 (by decide)), hx.1 2 (by decide) (by decide)]
  have hn := hN x x0 x1
  show (0 ≤ s.2 9 x ∧ s.2 9 x < 16) ∧ ((s.2 9 x = 3 ∨ s.2 9 x = 8 ∨ s.2 9 x = 10) → 0 ≤ (undU s u).2 10 x ∧ (undU s u).2 10 x < 26) ∧ (s.2 9 x = 2 → (undU s u).2 10 x = 0 ∨ (undU s u).2 10 x = 1) ∧ ((s.2 9 x = 8 ∨ s.2 9 x = 15) → 0 ≤ s.2 11 x ∧ s.2 11 x < s.1 2)
  by_cases e : x ∈ fl u.1
  · rw [show (undU s u).2 10 x = u.2.2 10 x from if_pos ⟨rfl, e⟩]
    have := hP.2.2.2.2 x e
    exact ⟨hn.1, this.1, this.2, hn.2.2.2⟩
  · rw [show (undU s u).2 10 x = s.2 10 x from if_neg (fun q => e q.2)]
    exact hn
end
