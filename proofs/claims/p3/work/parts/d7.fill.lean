/-! Nodes born anew from the shelf by the desk. -/
theorem AT_rlb {so pa up pl so' pa' up' pl' : Int → Int} {B B' : Int} : ∀ (t : Term) (b : Nat), AT so pa up pl B t → (fl t).Nodup → (b : Int) + (fl t).length ≤ B' → (∀ (k : Nat) (x : Int), (fl t)[k]? = some x → so' (b + k) = so x) → (∀ (k : Nat) (x : Int) (j : Nat), 0 < k → (fl t)[k]? = some x → (fl t)[j]? = some (up x) → up' (b + k) = b + j ∧ pl' (b + k) = pl x ∧ pa' (3 * (b + j) + pl x) = b + k) → AT so' pa' up' pl' B' (rlb t b) := by
  intro t
  induction t with
  | index n =>
    intro b h _ hB hs _
    have h1 : (fl (Term.index n)).length = 1 := rfl
    have := hs 0 n rfl
    refine ⟨by show (b : Int) < B'; omega, ?_⟩
    show 0 ≤ so' b ∧ so' b < 16
    rw [show ((b : Int)) = b + ((0 : Nat) : Int) by omega, this]
    exact h.2
  | add t y ih ihy =>
    intro b h hnd hB hs hl
    obtain ⟨h1, h2, h3, h4, h5, h6, h7⟩ := h
    obtain ⟨d1, d2, d3⟩ := List.nodup_append.mp hnd
    have e : fl (Term.add t y) = fl t ++ fl y := rfl
    have hlen : (fl (Term.add t y)).length = (fl t).length + (fl y).length := by rw [e, List.length_append]
    have lt : ∀ (k : Nat) (x : Int), (fl t)[k]? = some x → (fl (Term.add t y))[k]? = some x := fun k x hk => by
      rw [e, List.getElem?_append_left (List.getElem?_eq_some_iff.mp hk).1]; exact hk
    have ly : ∀ (k : Nat) (x : Int), (fl y)[k]? = some x → (fl (Term.add t y))[(fl t).length + k]? = some x := fun k x hk => by
      rw [e, List.getElem?_append_right (by omega), Nat.add_sub_cancel_left]; exact hk
    obtain ⟨rt, hrt⟩ := fl_hd t h1
    obtain ⟨ry, hry⟩ := fl_hd y h2
    have a1 := ih b h1 d1 (by rw [hlen] at hB; push_cast at hB; omega) (fun k x hk => hs k x (lt k x hk)) (fun k x j k0 hk hj => hl k x j k0 (lt k x hk) (lt j _ hj))
    have a2 := ihy (b + (fl t).length) h2 d2 (by rw [hlen] at hB; push_cast at hB ⊢; omega) (fun k x hk => by
      have := hs _ x (ly k x hk)
      rw [← this]; congr 1; push_cast; omega) (fun k x j k0 hk hj => by
      obtain ⟨q1, q2, q3⟩ := hl _ x _ (by omega) (ly k x hk) (ly j _ hj)
      refine ⟨?_, ?_, ?_⟩
      · rw [show ((b + (fl t).length : Nat) : Int) + k = b + (((fl t).length + k : Nat) : Int) by push_cast; omega, q1]; push_cast; omega
      · rw [show ((b + (fl t).length : Nat) : Int) + k = b + (((fl t).length + k : Nat) : Int) by push_cast; omega, q2]
      · rw [show 3 * (((b + (fl t).length : Nat) : Int) + j) + pl x = 3 * (b + (((fl t).length + j : Nat) : Int)) + pl x by push_cast; omega, q3]; push_cast; omega)
    obtain ⟨f1, f2, f3⟩ := rlb_fl t b h1
    obtain ⟨g1, g2, g3⟩ := rlb_fl y (b + (fl t).length) h2
    have hy0 : (fl (Term.add t y))[(fl t).length]? = some (hd y) := by
      have := ly 0 (hd y) (by rw [hry]; rfl)
      exact this
    have ht0 : (fl (Term.add t y))[0]? = some (hd t) := lt 0 (hd t) (by rw [hrt]; rfl)
    have hl0 := hl (fl t).length (hd y) 0 (by rw [hrt]; simp) hy0 (by rw [h6]; exact ht0)
    rw [h7] at hl0
    have hst : so' (b : Int) = so (hd t) := by
      have := hs 0 (hd t) ht0
      rw [← this]; congr 1
    refine ⟨a1, a2, ?_, ?_, ?_, ?_, ?_⟩
    · show na (rlb y (b + (fl t).length)) = pO (so' (hd (rlb y (b + (fl t).length))))
      rw [g2, g3]
      have := hs _ _ hy0
      rw [show ((b + (fl t).length : Nat) : Int) = b + (((fl t).length : Nat) : Int) by push_cast; rfl, this]
      exact h3
    · rw [f2, f3, hst]; exact h4
    · rw [f2, f3, g2]
      have := hl0.2.2
      rw [show 3 * ((b : Int) + ((0 : Nat) : Int)) + na t = 3 * (b : Int) + na t by omega] at this
      rw [this]; push_cast; rfl
    · rw [g2, f2]
      have := hl0.1
      rw [show ((b + (fl t).length : Nat) : Int) = b + (((fl t).length : Nat) : Int) by push_cast; rfl, this]; omega
    · rw [g2, f3]
      have := hl0.2.1
      rw [show ((b + (fl t).length : Nat) : Int) = b + (((fl t).length : Nat) : Int) by push_cast; rfl]
      exact this
  | _ => intro b h; exact h.elim
/-- so far born -/
def FBs (s : SM) (u : Snap) (k : Nat) (st : SM) : Prop := st.1 8 = s.1 8 + k ∧ eqx [8] [9, 10, 11, 12, 13, 14] s st ∧ OLD (fun y => y < s.1 8) s st ∧ (∀ (j : Nat) (x : Int), j < k → (fl u.1)[j]? = some x → st.2 9 (s.1 8 + j) = u.2.2 9 x ∧ st.2 10 (s.1 8 + j) = u.2.2 10 x ∧ st.2 11 (s.1 8 + j) = u.2.2 11 x) ∧ ∀ (j : Nat) (x : Int) (i : Nat), 0 < j → j < k → (fl u.1)[j]? = some x → (fl u.1)[i]? = some (u.2.2 12 x) → st.2 12 (s.1 8 + j) = s.1 8 + i ∧ st.2 13 (s.1 8 + j) = u.2.2 13 x ∧ st.2 14 (3 * (s.1 8 + i) + u.2.2 13 x) = s.1 8 + j
theorem FBs_born {s st : SM} {u : Snap} {k : Nat} {x : Int} (h : FBs s u k st) (hk : (fl u.1)[k]? = some x) (hb : nvl (u.2.2 9 x) (u.2.2 10 x) = u.2.2 10 x ∧ kvl (u.2.2 9 x) (u.2.2 11 x) = u.2.2 11 x) : (bornU st (u.2.2 9 x) (u.2.2 10 x) (u.2.2 11 x)).1 8 = s.1 8 + (k + 1 : Nat) ∧ eqx [8] [9, 10, 11, 12, 13, 14] s (bornU st (u.2.2 9 x) (u.2.2 10 x) (u.2.2 11 x)) ∧ OLD (fun y => y < s.1 8) s (bornU st (u.2.2 9 x) (u.2.2 10 x) (u.2.2 11 x)) ∧ (∀ (j : Nat) (z : Int), j < k + 1 → (fl u.1)[j]? = some z → (bornU st (u.2.2 9 x) (u.2.2 10 x) (u.2.2 11 x)).2 9 (s.1 8 + j) = u.2.2 9 z ∧ (bornU st (u.2.2 9 x) (u.2.2 10 x) (u.2.2 11 x)).2 10 (s.1 8 + j) = u.2.2 10 z ∧ (bornU st (u.2.2 9 x) (u.2.2 10 x) (u.2.2 11 x)).2 11 (s.1 8 + j) = u.2.2 11 z) ∧ ∀ (j : Nat) (z : Int) (i : Nat), 0 < j → j < k → (fl u.1)[j]? = some z → (fl u.1)[i]? = some (u.2.2 12 z) → (bornU st (u.2.2 9 x) (u.2.2 10 x) (u.2.2 11 x)).2 12 (s.1 8 + j) = s.1 8 + i ∧ (bornU st (u.2.2 9 x) (u.2.2 10 x) (u.2.2 11 x)).2 13 (s.1 8 + j) = u.2.2 13 z ∧ (bornU st (u.2.2 9 x) (u.2.2 10 x) (u.2.2 11 x)).2 14 (3 * (s.1 8 + i) + u.2.2 13 z) = s.1 8 + j := by
  obtain ⟨f1, f2, f3, f4, f5⟩ := h
  have he := bornU_e (s := st) (so := u.2.2 9 x) (v := u.2.2 10 x) (k := u.2.2 11 x)
  have ho := bornU_o (s := st) (so := u.2.2 9 x) (v := u.2.2 10 x) (k := u.2.2 11 x)
  have ha := bornU_at (s := st) (so := u.2.2 9 x) (v := u.2.2 10 x) (k := u.2.2 11 x)
  refine ⟨by rw [bornU_8]; push_cast; omega, (f2.up (fun y q => q) (fun y q => q)).tr (he.up (fun y q => q) (fun y q => by simp at q ⊢; omega)), fun y hy => ?_, fun j z hj hz => ?_, fun j z i j0 hj hz hi => ?_⟩
  · have hy : y < s.1 8 := hy
    obtain ⟨⟨g1, g2, g3⟩, ⟨g4, g5⟩, g6⟩ := f3 y hy
    obtain ⟨⟨r1, r2, r3⟩, ⟨r4, r5⟩, r6⟩ := ho y (by show y < st.1 8; omega)
    exact ⟨⟨r1.trans g1, r2.trans g2, r3.trans g3⟩, ⟨r4.trans g4, r5.trans g5⟩, fun i i0 i3 => (r6 i i0 i3).trans (g6 i i0 i3)⟩
  · by_cases q : j = k
    · subst q
      rw [hk] at hz
      cases hz
      rw [← f1, ha.1, ha.2.1, ha.2.2]
      exact ⟨rfl, hb⟩
    · obtain ⟨⟨r1, r2, r3⟩, -⟩ := ho (s.1 8 + j) (by show s.1 8 + (j : Int) < st.1 8; omega)
      rw [r1, r2, r3]
      exact f4 j z (by omega) hz
  · rw [he.2 12 (by decide), he.2 13 (by decide), he.2 14 (by decide)]
    exact f5 j z i j0 hj hz hi
theorem FBs_part {s st : SM} {u : Snap} {k i0 : Nat} {x : Int} (hu : AT (u.2.2 9) (u.2.2 14) (u.2.2 12) (u.2.2 13) (u.2.1 8) u.1 ∧ (fl u.1).Nodup) (hk : (fl u.1)[k]? = some x) (hk0 : 0 < k) (hi0 : (fl u.1)[i0]? = some (u.2.2 12 x)) (h1 : st.1 8 = s.1 8 + (k + 1 : Nat)) (h2 : eqx [8] [9, 10, 11, 12, 13, 14] s st) (h3 : OLD (fun y => y < s.1 8) s st) (h4 : ∀ (j : Nat) (z : Int), j < k + 1 → (fl u.1)[j]? = some z → st.2 9 (s.1 8 + j) = u.2.2 9 z ∧ st.2 10 (s.1 8 + j) = u.2.2 10 z ∧ st.2 11 (s.1 8 + j) = u.2.2 11 z) (h5 : ∀ (j : Nat) (z : Int) (i : Nat), 0 < j → j < k → (fl u.1)[j]? = some z → (fl u.1)[i]? = some (u.2.2 12 z) → st.2 12 (s.1 8 + j) = s.1 8 + i ∧ st.2 13 (s.1 8 + j) = u.2.2 13 z ∧ st.2 14 (3 * (s.1 8 + i) + u.2.2 13 z) = s.1 8 + j) : FBs s u (k + 1) (partU st (s.1 8 + i0) (u.2.2 13 x) (s.1 8 + k)) := by
  have ndi : ∀ (a b : Nat) (z : Int), (fl u.1)[a]? = some z → (fl u.1)[b]? = some z → a = b := fun a b z ha hb => by
    obtain ⟨a1, a2⟩ := List.getElem?_eq_some_iff.mp ha
    obtain ⟨b1, b2⟩ := List.getElem?_eq_some_iff.mp hb
    exact (List.getElem_inj hu.2).mp (a2.trans b2.symm)
  obtain ⟨r0, hr0⟩ := fl_hd _ hu.1
  have hd0 : (fl u.1)[0]? = some (hd u.1) := by rw [hr0]; rfl
  have pl3 : ∀ (j : Nat) (z : Int), 0 < j → (fl u.1)[j]? = some z → (0 ≤ u.2.2 13 z ∧ u.2.2 13 z < 3) ∧ u.2.2 14 (3 * u.2.2 12 z + u.2.2 13 z) = z := fun j z j0 hz => by
    have hne : z ≠ hd u.1 := fun q => by
      have := ndi j 0 _ (by rw [hz, q]) hd0
      omega
    obtain ⟨m1, m2, m3⟩ := (AT_mem u.1 hu.1 z (List.mem_of_getElem? hz)).2.2.2 hne
    have := pO_in (u.2.2 9 (u.2.2 12 z))
    exact ⟨by omega, m3⟩
  have he := partU_e (s := st) (b := s.1 8 + i0) (i := u.2.2 13 x) (c := s.1 8 + k)
  have hp := pl3 k x hk0 hk
  refine ⟨(he.1 8 (by decide)).trans h1, (h2.up (fun y q => q) (fun y q => q)).tr (he.up (fun y q => by cases q) (fun y q => by simp at q ⊢; omega)), fun y hy => ?_, fun j z hj hz => ?_, fun j z i j0 hj hz hi => ?_⟩
  · have hy : y < s.1 8 := hy
    obtain ⟨⟨g1, g2, g3⟩, ⟨g4, g5⟩, g6⟩ := h3 y hy
    obtain ⟨⟨r1, r2, r3⟩, ⟨r4, r5⟩, r6⟩ := partU_o (s := st) (b := s.1 8 + i0) (i := u.2.2 13 x) (c := s.1 8 + k) hp.1 y ⟨by omega, by omega⟩
    exact ⟨⟨r1.trans g1, r2.trans g2, r3.trans g3⟩, ⟨r4.trans g4, r5.trans g5⟩, fun i i0 i3 => (r6 i i0 i3).trans (g6 i i0 i3)⟩
  · rw [he.2 9 (by decide), he.2 10 (by decide), he.2 11 (by decide)]
    exact h4 j z hj hz
  · by_cases q : j = k
    · subst q
      rw [hk] at hz
      cases hz
      have := ndi i i0 _ hi hi0
      subst this
      obtain ⟨a1, a2, a3⟩ := partU_at (s := st) (b := s.1 8 + i) (i := u.2.2 13 x) (c := s.1 8 + j)
      exact ⟨a2, a3, a1⟩
    · obtain ⟨c1, c2, c3⟩ := h5 j z i j0 (by omega) hz hi
      have hz3 := pl3 j z j0 hz
      refine ⟨?_, ?_, ?_⟩
      · unfold partU; simp only [ua_2]; rw [if_neg (by omega), if_neg (by omega), if_neg (by omega)]; exact c1
      · unfold partU; simp only [ua_2]; rw [if_neg (by omega), if_neg (by omega), if_neg (by omega)]; exact c2
      · unfold partU; simp only [ua_2]; rw [if_neg (by omega), if_neg (by omega), if_neg (fun w => ?_)]; · exact c3
        have hii : i = i0 := by omega
        have hpp : u.2.2 13 z = u.2.2 13 x := by omega
        rw [hii, hi0] at hi
        have hup : u.2.2 12 x = u.2.2 12 z := by injection hi
        have : z = x := by rw [← hz3.2, ← hp.2, hup, hpp]
        exact q (ndi j k z hz (by rw [this]; exact hk))
section
variable {iv : List (Int × Int)} {L : Nat} {h0 : MH} {A A' : Int → Nat} {c e : SC} {s s' w : SM} {t : Term} {d : Nat} {P : Int → Prop} {Q : Int → Int → Prop} {K : List Snap}
theorem op_uB {fr z : Nat} {i : Int} (h : OP A c s P Q) (hf : 353 ≤ fr) (hn : ∀ b, 0 ≤ b → b < s.1 8 → A b + 1 ≠ fr) : OP A (uB c fr i z) s P Q := by
  obtain ⟨⟨hX, hN, hI⟩, ⟨hL, hP⟩, r⟩ := h
  refine ⟨⟨?_, hN, hI⟩, ⟨hL, fun b j hb => ?_⟩, r⟩
  · obtain ⟨g1, ⟨g2, g3⟩, g4, g5⟩ := hX
    refine ⟨g1, ⟨fun j hj => ?_, fun j hj => ?_⟩, g4, g5⟩
    · rw [aR_uB, if_neg (by omega)]; exact g2 j hj
    · rw [aR_uB, if_neg (by omega)]; exact g3 j hj
  · have := (hI.2 b j hb).1
    rw [aR_uB, if_neg (fun q => hn b this.1 this.2 q.1)]
    exact hP b j hb
theorem hang_f {x y i : Int} {F : SC → Prop} (h : OP A c s P Q) (hx : 0 ≤ x ∧ x < s.1 8) (hy : 0 ≤ y ∧ y < s.1 8) (hi : 0 ≤ i ∧ i < pO (s.2 9 x)) (hF : ∀ e, OP A e (partU s x i y) (fun b => P b ∨ b = y) (fun b j => Q b j ∨ (b = x ∧ j = i)) → CX lys [1103] c e → RMk 0 0 c e → (∀ a k, a ≠ A x + 1 → aR e a k = aR c a k) → F e) : ck iv L h0 d 188 [vr (A x), vi i, vr (A y)] c (qv F) := by
  obtain ⟨p1, p2⟩ := op_part h hx hy hi
  obtain ⟨⟨n1, n2, n3, n4, n5, n6, n7, n8⟩, n9, n10⟩ := h.1.2.1.2 x hx.1 hx.2
  obtain ⟨⟨m1, m2, m3, m4, m5, m6, m7, m8⟩, m9, m10⟩ := h.1.2.1.2 y hy.1 hy.2
  refine C188 ⟨n1, by rw [n7]; exact n2, by rw [n7, n3]; exact hi, Or.inr m1, m1, ?_⟩
  rw [n7]
  exact hF _ p1 p2 RMk.rf (fun a k ha => by rw [aR_uI, aR_uR, aR_uB, if_neg (fun w => ha w.1)])
def biY : List (Nat × Nat) := (8, 4) :: lys
/-- what bornInto() leaves -/
def BIN (A : Int → Nat) (c : SC) (s : SM) (u : Snap) (A' : Int → Nat) (e : SC) (st : SM) (k : Nat) (P : Int → Prop) (Q : Int → Int → Prop) : Prop := OP A' e st (fun x => P x ∨ (s.1 8 < x ∧ x < s.1 8 + k)) (fun b i => Q b i ∨ ∃ (j : Nat) (x : Int) (i' : Nat), 0 < j ∧ j < k ∧ (fl u.1)[j]? = some x ∧ (fl u.1)[i']? = some (u.2.2 12 x) ∧ b = s.1 8 + i' ∧ i = u.2.2 13 x) ∧ FBs s u k st ∧ EXT A A' (s.1 8) ∧ CX biY [1103] c e ∧ RMk (2 * k + 1) (17 * k + 64) c e ∧ NWc (nxt c) e
theorem bornInto_ok {p : Nat} {u : Snap} {F : Nat → SC → Prop} (hp : p < 6) (hO : OP A c s P Q) (hC : CPc c (199 + 6 * p) u) (hu : (AT (u.2.2 9) (u.2.2 14) (u.2.2 12) (u.2.2 13) (u.2.1 8) u.1 ∧ full (u.2.2 9) u.1 ∧ (fl u.1).Nodup ∧ (fl u.1).length ≤ 60)) (hb : ∀ x, x ∈ fl u.1 → (0 ≤ u.2.2 9 x ∧ u.2.2 9 x < 16) ∧ nvl (u.2.2 9 x) (u.2.2 10 x) = u.2.2 10 x ∧ kvl (u.2.2 9 x) (u.2.2 11 x) = u.2.2 11 x) (h30 : s.1 8 + (fl u.1).length ≤ 3000) (hF : ∀ A' e st, BIN A c s u A' e st (fl u.1).length P Q → F (A' (s.1 8)) e) : ck iv L h0 (d + 2) 161 [vr (199 + 6 * p), vr 70] c (qa F) := by
  obtain ⟨o1, o2, -⟩ := hO.1.1.2.1.2 p hp
  have h353 := hO.1.1.2.2.1
  have hB8 := hO.2.2.2.2
  obtain ⟨u1, u2, u3, u4⟩ := hu
  obtain ⟨r0, hr0⟩ := fl_hd _ u1
  have hln : 0 < (fl u.1).length := by rw [hr0]; simp
  have h5 := hC.1
  have ndi : ∀ (a b : Nat) (z : Int), (fl u.1)[a]? = some z → (fl u.1)[b]? = some z → a = b := fun a b z ha hb => by
    obtain ⟨a1, a2⟩ := List.getElem?_eq_some_iff.mp ha
    obtain ⟨b1, b2⟩ := List.getElem?_eq_some_iff.mp hb
    exact (List.getElem_inj u3).mp (a2.trans b2.symm)
  have hd0 : (fl u.1)[0]? = some (hd u.1) := by rw [hr0]; rfl
  have hC4 : ∀ (k : Nat) (x : Int), 0 < k → (fl u.1)[k]? = some x → (∃ j : Nat, j < k ∧ aI c (203 + 6 * p) k = j ∧ (fl u.1)[j]? = some (u.2.2 12 x)) ∧ aI c (204 + 6 * p) k = u.2.2 13 x := fun k x k0 hk => by
    have := (hC.2 k x hk).2 k0
    rw [show 199 + 6 * p + 4 = 203 + 6 * p by omega, show 199 + 6 * p + 5 = 204 + 6 * p by omega] at this
    exact this
  have key : ∀ (m q : List Int) (A' : Int → Nat) (f : SC) (st : SM), fl u.1 = q ++ m → BIN A c s u A' f st q.length P Q → (kl f (nxt c) = 103 ∧ le f (nxt c) = (fl u.1).length) → (∀ b, 0 ≤ b → b < st.1 8 → A' b + 1 ≠ nxt c) → (∀ j : Nat, j < q.length → aR f (nxt c) j = A' (s.1 8 + j)) → nxt c < nxt f → wk iv L h0 (d + 2) 161 10 [lr (199 + 6 * p), lr 70, lr (nxt c), li q.length] [] f (qa F) := by
    intro m
    induction m with
    | nil =>
      intro q A' f st hq hBI hfr hne hfa hnf
      rw [List.append_nil] at hq
      obtain ⟨hOf, hFB, hE, hx, hr, hW⟩ := id hBI
      obtain ⟨z1, z2, -⟩ := hOf.1.1.2.1.2 p hp
      have hky : ky (199 + 6 * p) (kl c (199 + 6 * p)) = 2 := by rw [o2]; unfold ky; rw [if_neg (by omega)]
      have e5 : fI f (199 + 6 * p) 5 = (fl u.1).length := by rw [hx.i (by omega) (by rw [hky]; decide)]; exact h5
      refine C161_10 ⟨z2, fun _ => ⟨fun w => by rw [e5] at w; omega, fun _ => ⟨hfr.1, by rw [hfr.2]; omega, ?_⟩⟩, fun w => by rw [e5, hq] at w; omega⟩
      have := hfa 0 (by rw [← hq]; exact hln)
      rw [show ((0 : Nat) : Int) = 0 from rfl, Int.add_zero] at this
      rw [this]
      rw [← hq] at hBI
      exact hF A' f st hBI
    | cons x m ih =>
      intro q A' f st hq hBI hfr hne hfa hnf
      obtain ⟨hOf, hFB, hE, hx, hr, hW⟩ := id hBI
      obtain ⟨z1, z2, ⟨z3, z4, z5, z6, z7⟩, ⟨z8, z9, z10, z11, z12⟩, z13, z14, z15, z16, z17⟩ := hOf.1.1.2.1.2 p hp
      have hky : ky (199 + 6 * p) (kl c (199 + 6 * p)) = 2 := by rw [o2]; unfold ky; rw [if_neg (by omega)]
      have e5 : fI f (199 + 6 * p) 5 = (fl u.1).length := by rw [hx.i (by omega) (by rw [hky]; decide)]; exact h5
      have hxm : x ∈ fl u.1 := by rw [hq]; simp
      have hget : (fl u.1)[q.length]? = some x := by rw [hq]; simp
      have hlen : (fl u.1).length = q.length + (m.length + 1) := by rw [hq]; simp
      obtain ⟨⟨c1, c2, c3⟩, c4⟩ := hC.2 q.length x hget
      have row : ∀ a, 199 < a → a < 235 → aI f a = aI c a := fun a a1 a2 => hx.ai (by omega) (by unfold rk; rw [if_pos (by omega)]; simp; omega)
      have r1 : aI f (200 + 6 * p) (q.length : Int) = u.2.2 9 x := by rw [row _ (by omega) (by omega), ← c1, show 199 + 6 * p + 1 = 200 + 6 * p by omega]
      have r2 : aI f (201 + 6 * p) (q.length : Int) = u.2.2 10 x := by rw [row _ (by omega) (by omega), ← c2, show 199 + 6 * p + 2 = 201 + 6 * p by omega]
      have r3 : aI f (202 + 6 * p) (q.length : Int) = u.2.2 11 x := by rw [row _ (by omega) (by omega), ← c3, show 199 + 6 * p + 3 = 202 + 6 * p by omega]
      obtain ⟨b1, b2, b3⟩ := hb x hxm
      obtain ⟨f1, f2, f3, f4, f5⟩ := hFB
      have b8 : fI f 70 4 = st.1 8 := hOf.2.2.1.2.1
      have hOB := hOf.2.2.2.2
      have h3f := hOf.1.1.2.2.1
      refine C161_10 ⟨z2, fun w => by rw [e5] at w; omega, fun _ => ?_⟩
      rw [z3, z4, z5, z8, z9, z10, z13, z14, z15, r1, r2, r3]
      refine ⟨rfl, by omega, rfl, by omega, rfl, by omega, hOf.1.1.dk.2.1, born_c hOf.1.1 (by omega) b1 (fun f2' hb2 => ?_)⟩
      have hb2' : BORN f f2' (u.2.2 9 x) (nvl (u.2.2 9 x) (u.2.2 10 x)) (kvl (u.2.2 9 x) (u.2.2 11 x)) := by rw [b2, b3]; exact hb2
      obtain ⟨hO2, hnew, hE2⟩ := op_born hOf hb2' (by omega) b1
      obtain ⟨g1, g2, g3, g4, g5⟩ := FBs_born ⟨f1, f2, f3, f4, f5⟩ hget ⟨b2, b3⟩
      have hb2n := hb2.2.2.2.1.1
      have hx2 := hb2.1
      have n2 := hb2.2.1
      generalize hst2 : bornU st (u.2.2 9 x) (u.2.2 10 x) (u.2.2 11 x) = st2 at hO2 g1 g2 g3 g4 g5
      have c3 : kl f2' (nxt c) = 103 ∧ le f2' (nxt c) = (fl u.1).length := ⟨(hx2.k hnf).trans hfr.1, (hx2.l hnf).trans hfr.2⟩
      have c4 : aR f2' (nxt c) = aR f (nxt c) := hx2.ar hnf (by simp)
      generalize hA2 : A1 A' (st.1 8) (nxt f) = A2 at hO2 hnew hE2
      have hn2 : ∀ b, 0 ≤ b → b < st2.1 8 → A2 b + 1 ≠ nxt c := fun b b0 b1 => by
        by_cases q : b < st.1 8
        · rw [hE2 b q]; exact hne b b0 q
        · rw [show b = st.1 8 by omega, hnew]; omega
      have hO3 := op_uB (fr := nxt c) (z := nxt f) (i := (q.length : Int)) hO2 h353 hn2
      have hxg : CX biY [1103] c (uB f2' (nxt c) q.length (nxt f)) := (hx.tr (hx2.up (fun y hy => by simp at hy; subst hy; decide) (fun _ w => by cases w))).uB (fun w => by omega)
      have hW3 : NWc (nxt c) (uB f2' (nxt c) q.length (nxt f)) := (show NWc (nxt c) f2' from hW.b h353 hb2)
      have hr3 : RMk (2 * (q.length + 1) + 1) (17 * (q.length + 1) + 64) c (uB f2' (nxt c) q.length (nxt f)) := ⟨by rw [nx_uB]; have := hr.1; omega, by rw [sl_uB]; have := hr.2; omega⟩
      have hEg : EXT A A2 (s.1 8) := hE.tr hE2 (by omega)
      have hfr3 : kl (uB f2' (nxt c) q.length (nxt f)) (nxt c) = 103 ∧ le (uB f2' (nxt c) q.length (nxt f)) (nxt c) = (fl u.1).length := c3
      have hfa3 : ∀ j : Nat, j < q.length + 1 → aR (uB f2' (nxt c) q.length (nxt f)) (nxt c) j = A2 (s.1 8 + j) := fun j hj => by
        rw [aR_uB]
        by_cases w : j = q.length
        · rw [if_pos ⟨rfl, by omega⟩, w, ← f1, hnew]
        · rw [if_neg (by omega), c4, hfa j (by omega)]
          exact (hE2 _ (by omega)).symm
      have hlq : (q ++ [x]).length = q.length + 1 := by simp
      have hlq' : (((q ++ [x]).length : Nat) : Int) = q.length + 1 := by rw [hlq]; push_cast; rfl
      refine ⟨c3.1, by rw [c3.2]; omega, Or.inr hb2n, fun w => ⟨by omega, ?_⟩, fun w => ?_⟩
      · have hq0 : q.length = 0 := by omega
        rw [← hlq']
        refine ih (q ++ [x]) A2 _ st2 (by rw [hq]; simp) ⟨?_, ⟨by rw [g1, hlq], g2, g3, by rw [hlq]; exact g4, fun j z i j0 hj => by rw [hlq] at hj; omega⟩, hEg, hxg, by rw [hlq]; exact hr3, hW3⟩ hfr3 hn2 (by rw [hlq]; exact hfa3) (by rw [nx_uB]; omega)
        refine op_mo hO3 (fun y hy => ?_) (fun y i hy => ?_)
        · rcases hy with hy | hy
          · exact Or.inl hy
          · rw [hlq] at hy; push_cast at hy; omega
        · rcases hy with hy | ⟨j, z, i', j0, j1, -⟩
          · exact Or.inl hy
          · rw [hlq] at j1; omega
      · have hq0 : 0 < q.length := by omega
        obtain ⟨⟨j, j1, j2, j3⟩, j4⟩ := hC4 _ x hq0 hget
        have kk : ∀ a, a < 353 → kl f2' a = kl c a ∧ le f2' a = le c a := fun a ha => ⟨(hx2.k (by omega)).trans (hx.k (by omega)), (hx2.l (by omega)).trans (hx.l (by omega))⟩
        have r4 : aI f2' (203 + 6 * p) (q.length : Int) = j := by rw [hx2.ai (by omega) (by simp), row _ (by omega) (by omega), j2]
        have r5 : aI f2' (204 + 6 * p) (q.length : Int) = u.2.2 13 x := by rw [hx2.ai (by omega) (by simp), row _ (by omega) (by omega), j4]
        have hX2 : FIX f2' := hO2.1.1
        obtain ⟨z1', z2', ⟨z3', z4', z5', z6', z7'⟩, ⟨z8', z9', z10', z11', z12'⟩, z13', z14', z15', z16', z17'⟩ := hX2.2.1.2 p hp
        have hjA : aR (uB f2' (nxt c) q.length (nxt f)) (nxt c) (j : Int) = A2 (s.1 8 + j) := hfa3 j (by omega)
        have hkA : aR (uB f2' (nxt c) q.length (nxt f)) (nxt c) (q.length : Int) = A2 (st.1 8) := by rw [hfa3 q.length (by omega), f1]
        have hxh : x ≠ hd u.1 := fun w' => by
          have := ndi q.length 0 _ (by rw [hget, w']) hd0
          omega
        obtain ⟨m1, m2, m3⟩ := (AT_mem u.1 u1 x hxm).2.2.2 hxh
        have hjB : 0 ≤ s.1 8 + (j : Int) ∧ s.1 8 + (j : Int) < st2.1 8 := by omega
        have h9j : st2.2 9 (s.1 8 + j) = u.2.2 9 (u.2.2 12 x) := (g4 j _ (by omega) j3).1
        have hkj : kl f2' (A2 (s.1 8 + j)) = 5 := (hO2.1.2.1.2 _ hjB.1 hjB.2).1.1
        rw [z7', z12', z17', z6', z11', z16', r4, r5, hjA, hkA]
        refine ⟨z2', rfl, by omega, by rw [c3.2]; omega, rfl, by omega, hkj, ?_⟩
        refine hang_f hO3 hjB ⟨by omega, by omega⟩ (by rw [h9j]; exact m2) (fun g G1 G2 G3 G4 => ⟨by omega, ?_⟩)
        have hG2 : CX biY [1103] (uB f2' (nxt c) q.length (nxt f)) g := G2.up (fun y hy => List.mem_cons_of_mem _ hy) (fun _ w => w)
        have hAe : ∀ i, aR g (nxt c) i = aR (uB f2' (nxt c) q.length (nxt f)) (nxt c) i := fun i => G4 _ _ (fun w' => hn2 _ hjB.1 hjB.2 w'.symm)
        have hng : nxt c < nxt (uB f2' (nxt c) q.length (nxt f)) := by rw [nx_uB]; omega
        rw [← hlq']
        have hF2 := FBs_part ⟨u1, u3⟩ hget hq0 j3 g1 g2 g3 g4 (by exact g5)
        rw [f1] at G1
        refine ih (q ++ [x]) A2 g _ (by rw [hq]; simp) ⟨?_, by rw [hlq]; exact hF2, hEg, hxg.tr hG2, by rw [hlq]; exact (hr3.tr G3).up (by omega) (by omega), hW3.x h353 hG2 G3 ⟨by decide, by decide⟩⟩ ⟨(hG2.k hng).trans hfr3.1, (hG2.l hng).trans hfr3.2⟩ ?_ (fun i hi => by rw [hAe]; rw [hlq] at hi; exact hfa3 i hi) (by have := hG2.n; omega)
        · refine op_mo G1 (fun y hy => ?_) (fun y i hy => ?_)
          · rcases hy with hy | hy
            · exact Or.inl (Or.inl hy)
            · rw [hlq] at hy; push_cast at hy
              by_cases w' : y = s.1 8 + q.length
              · exact Or.inr w'
              · exact Or.inl (Or.inr (by omega))
          · rcases hy with hy | ⟨j', z, i', j0, j1', j2', j3', j4', j5'⟩
            · exact Or.inl (Or.inl hy)
            · by_cases w' : j' = q.length
              · subst w'
                rw [hget] at j2'
                cases j2'
                have := ndi i' j _ j3' j3
                subst this
                exact Or.inr ⟨j4', j5'⟩
              · rw [hlq] at j1'
                exact Or.inl (Or.inr ⟨j', z, i', j0, by omega, j2', j3', j4', j5'⟩)
        · intro b b0 b1
          exact hn2 b b0 (by have : (partU st2 (s.1 8 + j) (u.2.2 13 x) (s.1 8 + q.length)).1 8 = st2.1 8 := partU_e.1 8 (by decide); omega)
  refine C161 ⟨o2, by rw [h5]; omega, h353, ?_⟩
  rw [h5]
  have hx0 : CX [] [] c (nA c 3 (fl u.1).length) := CX.rf.nA
  have hOn := op_x hO hx0 (by simp) (by simp) (by simp) (by simp) (by simp) (by simp)
  refine key (fl u.1) [] A _ s rfl ⟨op_mo hOn (fun y hy => ?_) (fun y i hy => ?_), ⟨by simp, eqx.rf, fun y _ => ⟨⟨rfl, rfl, rfl⟩, ⟨rfl, rfl⟩, fun _ _ _ => rfl⟩, fun j z hj => by simp at hj, fun j z i j0 hj => by simp at hj⟩, EXT.rf, hx0.up (fun _ w => by cases w) (fun _ w => by cases w), ⟨by rw [nx_nA]; simp, by rw [sl_nA]; simp; omega⟩, fun a a1 a2 a3 => ?_⟩ ⟨by rw [kl_nA, if_pos rfl], by rw [le_nA, if_pos rfl]⟩ (fun b b0 b1 => ?_) (fun j hj => by simp at hj) (by rw [nx_nA]; omega)
  · rcases hy with hy | hy
    · exact hy
    · simp at hy; omega
  · rcases hy with hy | ⟨j, z, i', j0, j1, -⟩
    · exact hy
    · simp at j1
  · rw [nx_nA] at a2
    rw [kl_nA, if_pos (by omega)] at a3
    omega
  · have := (hO.1.2.1.2 b b0 b1).2.1
    omega
end
