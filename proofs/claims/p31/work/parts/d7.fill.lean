/-! Nodes born anew from the shelf by the desk. -/
theorem AT_rlb {so pa up pl so' pa' up' pl' : Int → Int} {B B' : Int} : ∀ (t : Term) (b : Nat), AT so pa up pl B t → (fl t).Nodup → (b : Int) + (fl t).length ≤ B' → (∀ (k : Nat) (x : Int), (fl t)[k]? = some x → so' (b + k) = so x) → (∀ (k : Nat) (x : Int) (j : Nat), 0 < k → (fl t)[k]? = some x → (fl t)[j]? = some (up x) → up' (b + k) = b + j ∧ pl' (b + k) = pl x ∧ pa' (3 * (b + j) + pl x) = b + k) → AT so' pa' up' pl' B' (rlb t b) := by
  intro t
  induction t with
  | index n =>
    intro b h _ hB hs _
    have h1 : (fl (Term.index n)).length = 1 := rfl
    have := hs 0 n rfl
    refine ⟨by show (b : Int) < B'; omega, ?_⟩
    show 0 ≤ so' b ∧ so' b < 16
    rw [show ((b : Int)) = b + ((0 : Nat) : Int) by omega, this]
    exact h.2
  | add t y ih ihy =>
    intro b h hnd hB hs hl
    obtain ⟨h1, h2, h3, h4, h5, h6, h7⟩ := h
    obtain ⟨d1, d2, d3⟩ := List.nodup_append.mp hnd
    have e : fl (Term.add t y) = fl t ++ fl y := rfl
    have hlen : (fl (Term.add t y)).length = (fl t).length + (fl y).length := by rw [e, List.length_append]
    have lt : ∀ (k : Nat) (x : Int), (fl t)[k]? = some x → (fl (Term.add t y))[k]? = some x := fun k x hk => by
      rw [e, List.getElem?_append_left (List.getElem?_eq_some_iff.mp hk).1]; exact hk
    have ly : ∀ (k : Nat) (x : Int), (fl y)[k]? = some x → (fl (Term.add t y))[(fl t).length + k]? = some x := fun k x hk => by
      rw [e, List.getElem?_append_right (by omega), Nat.add_sub_cancel_left]; exact hk
    obtain ⟨rt, hrt⟩ := fl_hd t h1
    obtain ⟨ry, hry⟩ := fl_hd y h2
    have a1 := ih b h1 d1 (by rw [hlen] at hB; push_cast at hB; omega) (fun k x hk => hs k x (lt k x hk)) (fun k x j k0 hk hj => hl k x j k0 (lt k x hk) (lt j _ hj))
    have a2 := ihy (b + (fl t).length) h2 d2 (by rw [hlen] at hB; push_cast at hB ⊢; omega) (fun k x hk => by
      have := hs _ x (ly k x hk)
      rw [← this]; congr 1; push_cast; omega) (fun k x j k0 hk hj => by
      obtain ⟨q1, q2, q3⟩ := hl _ x _ (by omega) (ly k x hk) (ly j _ hj)
      refine ⟨?_, ?_, ?_⟩
      · rw [show ((b + (fl t).length : Nat) : Int) + k = b + (((fl t).length + k : Nat) : Int) by push_cast; omega, q1]; push_cast; omega
      · rw [show ((b + (fl t).length : Nat) : Int) + k = b + (((fl t).length + k : Nat) : Int) by push_cast; omega, q2]
      · rw [show 3 * (((b + (fl t).length : Nat) : Int) + j) + pl x = 3 * (b + (((fl t).length + j : Nat) : Int)) + pl x by push_cast; omega, q3]; push_cast; omega)
    obtain ⟨f1, f2, f3⟩ := rlb_fl t b h1
    obtain ⟨g1, g2, g3⟩ := rlb_fl y (b + (fl t).length) h2
    have hy0 : (fl (Term.add t y))[(fl t).length]? = some (hd y) := by
      have := ly 0 (hd y) (by rw [hry]; rfl)
      exact this
    have ht0 : (fl (Term.add t y))[0]? = some (hd t) := lt 0 (hd t) (by rw [hrt]; rfl)
    have hl0 := hl (fl t).length (hd y) 0 (by rw [hrt]; simp) hy0 (by rw [h6]; exact ht0)
    rw [h7] at hl0
    have hst : so' (b : Int) = so (hd t) := by
      have := hs 0 (hd t) ht0
      rw [← this]; congr 1
    refine ⟨a1, a2, ?_, ?_, ?_, ?_, ?_⟩
    · show na (rlb y (b + (fl t).length)) = pO (so' (hd (rlb y (b + (fl t).length))))
      rw [g2, g3]
      have := hs _ _ hy0
      rw [show ((b + (fl t).length : Nat) : Int) = b + (((fl t).length : Nat) : Int) by push_cast; rfl, this]
      exact h3
    · rw [f2, f3, hst]; exact h4
    · rw [f2, f3, g2]
      have := hl0.2.2
      rw [show 3 * ((b : Int) + ((0 : Nat) : Int)) + na t = 3 * (b : Int) + na t by omega] at this
      rw [this]; push_cast; rfl
    · rw [g2, f2]
      have := hl0.1
      rw [show ((b + (fl t).length : Nat) : Int) = b + (((fl t).length : Nat) : Int) by push_cast; rfl, this]; omega
    · rw [g2, f3]
      have := hl0.2.1
      rw [show ((b + (fl t).length : Nat) : Int) = b + (((fl t).length : Nat) : Int) by push_cast; rfl]
      exact this
  | _ => intro b h; exact h.elim
/-- so far born -/
def FBs (s : SM) (u : Snap) (k : Nat) (st : SM) : Prop := st.1 8 = s.1 8 + k ∧ eqx [8] [9, 10, 11, 12, 13, 14] s st ∧ OLD (fun y => y < s.1 8) s st ∧ (∀ (j : Nat) (x : Int), j < k → (fl u.1)[j]? = some x → st.2 9 (s.1 8 + j) = u.2.2 9 x ∧ st.2 10 (s.1 8 + j) = u.2.2 10 x ∧ st.2 11 (s.1 8 + j) = u.2.2 11 x) ∧ ∀ (j : Nat) (x : Int) (i : Nat), 0 < j → j < k → (fl u.1)[j]? = some x → (fl u.1)[i]? = some (u.2.2 12 x) → st.2 12 (s.1 8 + j) = s.1 8 + i ∧ st.2 13 (s.1 8 + j) = u.2.2 13 x ∧ st.2 14 (3 * (s.1 8 + i) + u.2.2 13 x) = s.1 8 + j
section
variable {iv : List (Int × Int)} {L : Nat} {h0 : MH} {A A' : Int → Nat} {c e : SC} {s s' w : SM} {t : Term} {d : Nat} {P : Int → Prop} {Q : Int → Int → Prop} {K : List Snap}
theorem op_uB {fr z : Nat} {i : Int} (h : OP A c s P Q) (hf : 353 ≤ fr) (hn : ∀ b, 0 ≤ b → b < s.1 8 → A b + 1 ≠ fr) : OP A (uB c fr i z) s P Q := by
  obtain ⟨⟨hX, hN, hI⟩, ⟨hL, hP⟩, r⟩ := h
  refine ⟨⟨?_, hN, hI⟩, ⟨hL, fun b j hb => ?_⟩, r⟩
  · obtain ⟨g1, ⟨g2, g3⟩, g4, g5⟩ := hX
    refine ⟨g1, ⟨fun j hj => ?_, fun j hj => ?_⟩, g4, g5⟩
    · rw [aR_uB, if_neg (by omega)]; exact g2 j hj
    · rw [aR_uB, if_neg (by omega)]; exact g3 j hj
  · have := (hI.2 b j hb).1
    rw [aR_uB, if_neg (fun q => hn b this.1 this.2 q.1)]
    exact hP b j hb
def biY : List (Nat × Nat) := (8, 4) :: lys
/-- what bornInto() leaves -/
def BIN (A : Int → Nat) (c : SC) (s : SM) (u : Snap) (A' : Int → Nat) (e : SC) (st : SM) (k : Nat) (P : Int → Prop) (Q : Int → Int → Prop) : Prop := OP A' e st (fun x => P x ∨ (s.1 8 < x ∧ x < s.1 8 + k)) (fun b i => Q b i ∨ ∃ (j : Nat) (x : Int) (i' : Nat), 0 < j ∧ j < k ∧ (fl u.1)[j]? = some x ∧ (fl u.1)[i']? = some (u.2.2 12 x) ∧ b = s.1 8 + i' ∧ i = u.2.2 13 x) ∧ FBs s u k st ∧ EXT A A' (s.1 8) ∧ CX biY [1103] c e ∧ RMk (2 * k + 1) (17 * k + 64) c e ∧ NWc (nxt c) e
theorem bornInto_ok {p : Nat} {u : Snap} {F : Nat → SC → Prop} (hp : p < 6) (hO : OP A c s P Q) (hC : CPc c (199 + 6 * p) u) (hu : (AT (u.2.2 9) (u.2.2 14) (u.2.2 12) (u.2.2 13) (u.2.1 8) u.1 ∧ full (u.2.2 9) u.1 ∧ (fl u.1).Nodup ∧ (fl u.1).length ≤ 60)) (hb : ∀ x, x ∈ fl u.1 → (0 ≤ u.2.2 9 x ∧ u.2.2 9 x < 16) ∧ nvl (u.2.2 9 x) (u.2.2 10 x) = u.2.2 10 x ∧ kvl (u.2.2 9 x) (u.2.2 11 x) = u.2.2 11 x) (h30 : s.1 8 + (fl u.1).length ≤ 3000) (hF : ∀ A' e st, BIN A c s u A' e st (fl u.1).length P Q → F (A' (s.1 8)) e) : ck iv L h0 (d + 2) 161 [vr (199 + 6 * p), vr 70] c (qa F) := by
  obtain ⟨o1, o2, -⟩ := hO.1.1.2.1.2 p hp
  have h353 := hO.1.1.2.2.1
  have hB8 := hO.2.2.2.2
  obtain ⟨u1, u2, u3, u4⟩ := hu
  obtain ⟨r0, hr0⟩ := fl_hd _ u1
  have hln : 0 < (fl u.1).length := by rw [hr0]; simp
  have h5 := hC.1
  have key : ∀ (m q : List Int) (A' : Int → Nat) (f : SC) (st : SM), fl u.1 = q ++ m → BIN A c s u A' f st q.length P Q → (kl f (nxt c) = 103 ∧ le f (nxt c) = (fl u.1).length) → (∀ b, 0 ≤ b → b < st.1 8 → A' b + 1 ≠ nxt c) → (∀ j : Nat, j < q.length → aR f (nxt c) j = A' (s.1 8 + j)) → wk iv L h0 (d + 2) 161 10 [lr (199 + 6 * p), lr 70, lr (nxt c), li q.length] [] f (qa F) := by
    intro m
    induction m with
    | nil =>
      intro q A' f st hq hBI hfr hne hfa
      rw [List.append_nil] at hq
      obtain ⟨hOf, hFB, hE, hx, hr, hW⟩ := id hBI
      obtain ⟨z1, z2, -⟩ := hOf.1.1.2.1.2 p hp
      have hky : ky (199 + 6 * p) (kl c (199 + 6 * p)) = 2 := by rw [o2]; unfold ky; rw [if_neg (by omega)]
      have e5 : fI f (199 + 6 * p) 5 = (fl u.1).length := by rw [hx.i (by omega) (by rw [hky]; decide)]; exact h5
      refine C161_10 ⟨z2, fun _ => ⟨fun w => by rw [e5] at w; omega, fun _ => ⟨hfr.1, by rw [hfr.2]; omega, ?_⟩⟩, fun w => by rw [e5, hq] at w; omega⟩
      have := hfa 0 (by rw [← hq]; exact hln)
      rw [show ((0 : Nat) : Int) = 0 from rfl, Int.add_zero] at this
      rw [this]
      rw [← hq] at hBI
      exact hF A' f st hBI
    | cons x m ih =>
      intro q A' f st hq hBI hfr hne hfa
      obtain ⟨hOf, hFB, hE, hx, hr, hW⟩ := id hBI
      obtain ⟨z1, z2, ⟨z3, z4, z5, z6, z7⟩, ⟨z8, z9, z10, z11, z12⟩, z13, z14, z15, z16, z17⟩ := hOf.1.1.2.1.2 p hp
      have hky : ky (199 + 6 * p) (kl c (199 + 6 * p)) = 2 := by rw [o2]; unfold ky; rw [if_neg (by omega)]
      have e5 : fI f (199 + 6 * p) 5 = (fl u.1).length := by rw [hx.i (by omega) (by rw [hky]; decide)]; exact h5
      have hxm : x ∈ fl u.1 := by rw [hq]; simp
      have hget : (fl u.1)[q.length]? = some x := by rw [hq]; simp
      have hlen : (fl u.1).length = q.length + (m.length + 1) := by rw [hq]; simp
      obtain ⟨⟨c1, c2, c3⟩, c4⟩ := hC.2 q.length x hget
      have row : ∀ a, 199 < a → a < 235 → aI f a = aI c a := fun a a1 a2 => hx.ai (by omega) (by unfold rk; rw [if_pos (by omega)]; simp; omega)
      have r1 : aI f (200 + 6 * p) (q.length : Int) = u.2.2 9 x := by rw [row _ (by omega) (by omega), ← c1, show 199 + 6 * p + 1 = 200 + 6 * p by omega]
      have r2 : aI f (201 + 6 * p) (q.length : Int) = u.2.2 10 x := by rw [row _ (by omega) (by omega), ← c2, show 199 + 6 * p + 2 = 201 + 6 * p by omega]
      have r3 : aI f (202 + 6 * p) (q.length : Int) = u.2.2 11 x := by rw [row _ (by omega) (by omega), ← c3, show 199 + 6 * p + 3 = 202 + 6 * p by omega]
      obtain ⟨b1, b2, b3⟩ := hb x hxm
      obtain ⟨f1, f2, f3, f4, f5⟩ := hFB
      have b8 : fI f 70 4 = st.1 8 := hOf.2.2.1.2.1
      have hOB := hOf.2.2.2.2
      have h3f := hOf.1.1.2.2.1
      refine C161_10 ⟨z2, fun w => by rw [e5] at w; omega, fun _ => ?_⟩
      rw [z3, z4, z5, z8, z9, z10, z13, z14, z15, r1, r2, r3]
      refine ⟨rfl, by omega, rfl, by omega, rfl, by omega, hOf.1.1.dk.2.1, born_c hOf.1.1 (by omega) b1 (fun f2' hb2 => ?_)⟩
      have hb2' : BORN f f2' (u.2.2 9 x) (nvl (u.2.2 9 x) (u.2.2 10 x)) (kvl (u.2.2 9 x) (u.2.2 11 x)) := by rw [b2, b3]; exact hb2
      obtain ⟨hO2, hnew, hE2⟩ := op_born hOf hb2' (by omega) b1
      have hnf : nxt c < nxt f := by
        by_cases q : nxt c < nxt f
        · exact q
        · exfalso
          have := hx.n
          have hk0 : kl f (nxt c) = 103 := hfr.1
          have hdm := hb2.2.2.2.1.1
          have hen : nxt f = nxt c := by omega
          sorry
      sorry
  refine C161 ⟨o2, by rw [h5]; omega, h353, ?_⟩
  rw [h5]
  sorry
end
