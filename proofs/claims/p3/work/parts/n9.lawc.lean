/-! A call by the law, of an object, by its run. -/
section
variable {iv : List (Int × Int)} {L : Nat} {d M pc nx x y : Nat} {ls : LV} {st : List VV} {Q : Option VV → CS → Prop}
theorem law_virt {n p f k n0 k1 n1 : Nat} {H h1 : MH} {ci : Nat} {fs : List Value} {as r : List VV} {w1 : Option VV} (he : (mG L (fun _ => 0)).1 M pc = some (.invokevirtual n, nx, x, y)) (hx : (Nat.beq x 9001 || Nat.beq x 9002) = false) (hs : st = as.reverse ++ (vr p :: r)) (hy : y = as.length) (hp : p ≠ 2) (hg : mget H p = some (.inr (ci, fs))) (hc : ci = (mG L (fun _ => 0)).2.2.2.2.2.2 x) (hm : (Nat.ble (r.map cat2).sum 8 && (Nat.ble ((vr p :: as).map cat2).sum ((mG L (fun _ => 0)).2.1 x) && Nat.ble ((mG L (fun _ => 0)).2.1 x) 21)) = true) (run : mrun iv (mG L (fun _ => 0)) f d x 0 (ment 0 (ems (vr p :: as))) [] H 0 0 = some (w1.map emb, h1, k1, n1)) (ok : ∀ w, w1 = some w → okV w) (hw : wp iv L RpK csK (d + 1) M nx ls (w1.toList ++ r) (h1, k + k1, n0 + n1) Q) : wp iv L RpK csK (d + 1) M pc ls st (H, k, n0) Q := by
  intro g1 g2 H0 lc hl hr
  have hr : H0 = H := hr
  subst hr
  subst hs
  have h4 : okS r := fun w hw => g2 w (List.mem_append_right _ (List.mem_cons_of_mem _ hw))
  have h5 : okS (w1.toList ++ r) := fun w hw => by
    rcases List.mem_append.mp hw with h | h
    · exact ok w (by cases w1 with
        | none => cases h
        | some u => rw [List.mem_singleton.mp h])
    · exact h4 w h
  obtain ⟨f2, v2, h2', k2, n2, s2, p1, p2, p3, p4, p5, p6⟩ := hw g1 h5 h1 lc hl rfl
  simp only [Bool.and_eq_true] at hm
  have hz : stepI iv (mG L (fun _ => 0)) M pc (.invokevirtual n) nx x y lc (ems (as.reverse ++ (vr p :: r))) H0 = some (.inr (.inl (x, ems (vr p :: as), ems r, nx))) := by
    subst hy
    have q1 : ¬ x = 9001 := by intro h; rw [h] at hx; cases hx
    have q2 : ¬ x = 9002 := by intro h; rw [h] at hx; cases hx
    have hl : (ems as.reverse).length = as.length := by simp [ems]
    have e0 : ems (as.reverse ++ (vr p :: r)) = ems as.reverse ++ (Value.ref p :: ems r) := by
      unfold ems
      rw [List.map_append, List.map_cons, emb_r hp]
    show (if x = 9001 then _ else if x = 9002 then _ else match (ems (as.reverse ++ (vr p :: r))).drop as.length with
      | .ref b :: r1 => (match mget H0 b with
        | some (.inr (ci, _)) => if ci = (mG L (fun _ => 0)).2.2.2.2.2.2 x then some (Sum.inr (Sum.inl (x, Value.ref b :: ((ems (as.reverse ++ (vr p :: r))).take as.length).reverse, r1, nx))) else none
        | _ => none)
      | _ => none) = _
    rw [if_neg q1, if_neg q2, e0, ← hl, List.take_left, List.drop_left]
    simp only
    rw [hg]
    simp only
    rw [if_pos hc]
    have e1 : ems (vr p :: as) = Value.ref p :: ems as := by
      unfold ems
      rw [List.map_cons, emb_r hp]
    rw [e1]
    simp [ems]
  refine ⟨max f f2 + 1, v2, h2', k1 + k2, n1 + n2, s2, ?_, p2, p3, by have p4 : k + k1 + k2 = s2.2.1 := p4; show k + (k1 + k2) = s2.2.1; omega, by have p5 : n0 + n1 + n2 = s2.2.2 := p5; show n0 + (n1 + n2) = s2.2.2; omega, p6⟩
  rw [mrun_s]
  unfold mstep
  rw [he]
  simp only
  rw [hz]
  simp only
  rw [if_pos (by rw [mwid_em, mwid_em]; simp only [Bool.and_eq_true, decide_eq_true_eq]; exact ⟨Nat.le_of_ble_eq_true hm.1, Nat.le_of_ble_eq_true hm.2.1, Nat.le_of_ble_eq_true hm.2.2⟩)]
  rw [mrun_f f (max f f2) d d _ _ _ _ _ _ _ _ (Nat.le_max_left ..) (Nat.le_refl _) run]
  have p7 := mrun_k _ _ _ _ _ _ _ _ _ _ _ _ _ k1 n1 (mrun_f f2 (max f f2) (d + 1) (d + 1) _ _ _ _ _ _ _ _ (Nat.le_max_right ..) (Nat.le_refl _) p1)
  simp only [Nat.add_zero, Nat.zero_add] at p7 ⊢
  rw [← p7]
  congr 1
  unfold ems
  cases w1 <;> rfl
end
