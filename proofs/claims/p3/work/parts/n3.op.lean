/-! One call on both: the desk first, then the reference. -/
section
variable {iv : List (Int × Int)} {L : Nat} {H h1 h2 : MH} {d M X : Nat} {asM asX : List VV} {s s' : SM} {c c' : SC}
theorem repM_up (h : RepM H s H) (hx : RepC H c' h1) : RepM h1 s h1 := by
  obtain ⟨⟨a1, a2⟩, a3, ⟨fs, b1, b2, b3⟩, b4⟩ := h
  obtain ⟨⟨c1, c2⟩, c3, c4, -⟩ := hx
  refine ⟨⟨c1, rfl⟩, fun _ _ => rfl, ⟨fs, by rw [c4 307 (by omega) (by omega)]; exact b1, b2, b3⟩, fun y a t n hy => ?_⟩
  have := mfl_adr hy
  obtain ⟨l, e1, e2⟩ := b4 y a t n hy
  exact ⟨l, by rw [c4 a (by omega) (by omega)]; exact e1, e2⟩
theorem repM_at (h : RepM h1 s' h2) : RepM h2 s' h2 := ⟨⟨h.1.1, rfl⟩, fun _ _ => rfl, h.2.2⟩
theorem repC_at (h : RepC H c' h1) (hm : RepM h1 s' h2) : RepC h2 c' h2 := by
  obtain ⟨⟨a1, a2⟩, a3, -, a5, a6⟩ := h
  obtain ⟨⟨b1, b2⟩, b3, -⟩ := hm
  have hg : ∀ a, kl c' a ≠ 0 → mget h2 a = mget h1 a := fun a ha => b3 a (by have := a3 a ha; omega)
  refine ⟨⟨b1, by rw [b2, a2]⟩, a3, fun _ _ _ => rfl, fun a ci ha hc => ?_, fun a t ha ht => ?_⟩
  · obtain ⟨fs, e1, e2⟩ := a5 a ci ha hc
    exact ⟨fs, by rw [hg a (by omega)]; exact e1, e2⟩
  · have := a6 a t ha ht
    unfold arR at this ⊢
    rw [hg a (by omega)]
    exact this
theorem run_same {f g e : Nat} {lc : ML} {st : List Value} {k n : Nat} {r1 r2 : Option Value × MH × Nat × Nat} (h1 : mrun iv (mG L (fun _ => 0)) f d M e lc st H k n = some r1) (h2 : mrun iv (mG L (fun _ => 0)) g d M e lc st H k n = some r2) : r1 = r2 := by
  have a := mrun_f f (max f g) d d M e lc st H k n r1 (Nat.le_max_left _ _) (Nat.le_refl _) h1
  have b := mrun_f g (max f g) d d M e lc st H k n r2 (Nat.le_max_right _ _) (Nat.le_refl _) h2
  rw [a] at b
  injection b
theorem op_both {G : Option VV → SM → Option VV → SC → Prop} (hP : ∀ h0, cm iv L h0 d M asM s (fun v s' => ∀ h0', ck iv L h0' d X asX c (fun v' c' => G v s' v' c'))) (hM : RepM H s H) (hC : RepC H c H) (oM : okS asM) (oX : okS asX) : ∃ f k1 n1 h1 w1, mrun iv (mG L (fun _ => 0)) f d X 0 (ment 0 (ems asX)) [] H 0 0 = some (w1.map emb, h1, k1, n1) ∧ ∃ f2 h2 w2 s' c' w', mrun iv (mG L (fun _ => 0)) f2 d M 0 (ment 0 (ems asM)) [] h1 0 0 = some (w2.map emb, h2, 0, 0) ∧ w1.map emb = w'.map emb ∧ ((∀ w, w1 = some w → okV w) ∧ (∀ w, w2 = some w → okV w) ∧ ∀ w, w' = some w → okV w) ∧ G w2 s' w' c' ∧ (RepM h2 s' h2 ∧ RepC h2 c' h2) ∧ nxt c + k1 = nxt c' ∧ slo c + n1 = slo c' := by
  have rel : ∀ as, relL (entv as) (ment 0 (ems as)) := fun as i v h => by
    have := relL_ent as 0 i v h
    rwa [Nat.zero_add] at this
  have no : okS [] := fun _ h => by cases h
  obtain ⟨f, v, h', k, n, s1, r1, o1, p1, q1, q2, g1⟩ := hP H (okL_ent asM oM) no H _ (rel asM) hM
  obtain ⟨fx, w1, hx, k1, n1, c1, rx, ox, px, qx1, qx2, -⟩ := g1 H (okL_ent asX oX) no H _ (rel asX) hC
  have hM1 := repM_up hM px
  obtain ⟨f2, w2, h2, k2, n2, s2, r2, o2, p2, u1, u2, g2⟩ := hP hx (okL_ent asM oM) no hx _ (rel asM) hM1
  obtain ⟨fy, w', hy, ky1, ny1, c2, ry, oy, py, y1, y2, g3⟩ := g2 H (okL_ent asX oX) no H _ (rel asX) hC
  have e := run_same rx ry
  injection e with e1 e2
  injection e2 with e2 e3
  injection e3 with e3 e4
  subst e2 e3 e4
  have z1 : k2 = 0 := by
    have u1 : 0 + k2 = 0 := u1
    omega
  have z2 : n2 = 0 := by
    have u2 : 0 + n2 = 0 := u2
    omega
  subst z1 z2
  exact ⟨fx, k1, n1, hx, w1, rx, f2, h2, w2, s2, c2, w', r2, e1, ⟨ox, o2, oy⟩, g3, ⟨repM_at p2, repC_at py p2⟩, y1, y2⟩
end
