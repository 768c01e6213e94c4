/-! Both calls of a row of the script, between two rows. -/
/-- between two calls of the law: `m` calls are behind -/
def LI (m : Nat) (S : CS) : Prop := ∃ s c, PAIR m s c ∧ (RepM S.1 s S.1 ∧ RepC S.1 c S.1) ∧ (64 + S.2.1 = nxt c ∧ S.2.2 = slo c) ∧ nxt c + PHI c ≤ 2233 + 130 * m ∧ slo c + 7 * PHI c ≤ 157804 + 1200 * m
theorem LI_0 : LI 0 (HM0, 289, 144644) := ⟨s00, c00, PAIR00, ⟨repM0, repC0⟩, ⟨rfl, rfl⟩, by rw [PHI00]; exact Nat.le_refl _, by rw [PHI00]; exact Nat.le_refl _⟩
theorem LI_rm {m : Nat} {S : CS} (h : LI m S) (hm : m ≤ 512) : S.2.1 ≤ 600000 ∧ S.2.2 ≤ 7302249 := by
  obtain ⟨s, c, -, -, ⟨h1, h2⟩, h3, h4⟩ := h
  have a1 : S.2.1 ≤ nxt c := by rw [← h1]; exact Nat.le_add_left _ _
  have a2 : nxt c ≤ nxt c + PHI c := Nat.le_add_right _ _
  have a3 : 2233 + 130 * m ≤ 600000 := by omega
  have a4 : slo c ≤ slo c + 7 * PHI c := Nat.le_add_right _ _
  have a5 : 157804 + 1200 * m ≤ 7302249 := by
    have : 1200 * m ≤ 1200 * 512 := Nat.mul_le_mul_left _ hm
    exact Nat.le_trans (Nat.add_le_add_left this _) (by decide)
  exact ⟨Nat.le_trans a1 (Nat.le_trans a2 (Nat.le_trans h3 a3)), by rw [h2]; exact Nat.le_trans a4 (Nat.le_trans h4 a5)⟩
theorem le_rm {p q m a b : Nat} (h1 : p ≤ q + b) (h2 : q ≤ a + b * m) : p ≤ a + b * (m + 1) := by
  rw [Nat.mul_succ]
  generalize b * m = k at h2 ⊢
  omega
section
variable {iv : List (Int × Int)} {L : Nat} {M X m : Nat} {asM asX : List VV} {S : CS}
theorem LI_64 (h : LI m S) : ∃ fs, mget S.1 64 = some (.inr (0, fs)) := by
  obtain ⟨s, c, ⟨A, t, K, Sh, V, W, hM, hD⟩, ⟨-, hC⟩, -⟩ := h
  obtain ⟨fs, e1, e2⟩ := hC.2.2.2.1 64 0 hD.1.1.1.1.1.1 (by decide)
  exact ⟨fs, e1⟩
theorem emb_i {w : VV} {z : Int} (ow : okV w) (oz : inR z) (h : emb w = emb (vi z)) : w = vi z := by
  rcases w with a | a | a
  · have h : Value.int (Int32.ofInt a) = Value.int (Int32.ofInt z) := h
    injection h with h
    have h1 : inR a := ow
    have e : (Int32.ofInt a).toInt = (Int32.ofInt z).toInt := by rw [h]
    rw [i_to h1, i_to oz] at e
    rw [e]
  · cases h
  · have h : (if a = 2 then Value.null else Value.ref a) = Value.int (Int32.ofInt z) := h
    by_cases g : a = 2
    · rw [if_pos g] at h; cases h
    · rw [if_neg g] at h; cases h
/-- the two runs, in any relation of the two answers -/
def TWO (iv : List (Int × Int)) (L M X m : Nat) (asM asX : List VV) (S : CS) (G : VV → VV → Prop) : Prop :=
  (∃ fs, mget S.1 64 = some (.inr (0, fs))) ∧ ∃ v v' f k1 n1 h1, G v v' ∧ (okV v ∧ okV v') ∧ mrun iv (mG L (fun _ => 0)) f 412 X 0 (ment 0 (ems asX)) [] S.1 0 0 = some ((some v').map emb, h1, k1, n1) ∧ (∃ fs, mget h1 307 = some (.inr (12, fs))) ∧ ∃ f2 h2, mrun iv (mG L (fun _ => 0)) f2 412 M 0 (ment 0 (ems asM)) [] h1 0 0 = some ((some v).map emb, h2, 0, 0) ∧ LI (m + 1) (h2, S.2.1 + k1, S.2.2 + n1)
theorem two_g {G : VV → VV → Prop} (hI : LI m S) (hP : ∀ s c, PAIR m s c → ∀ h0, cm iv L h0 412 M asM s (fun v s' => ∀ h0', ck iv L h0' 412 X asX c (fun v' c' => ∃ u u', v = some u ∧ v' = some u' ∧ G u u' ∧ PAIR (m + 1) s' c' ∧ RQ c c'))) (oM : okS asM) (oX : okS asX) : TWO iv L M X m asM asX S G := by
  refine ⟨LI_64 hI, ?_⟩
  obtain ⟨s, c, hp, ⟨hM, hC⟩, ⟨r1, r2⟩, r3, r4⟩ := hI
  obtain ⟨f, k1, n1, h1, w1, rx, f2, h2, w2, s', c', w', rm, ew, ⟨o1, o2, o3⟩, ⟨u, u', rfl, rfl, g, hp', q1, q2⟩, ⟨a1, a2⟩, a3, a4⟩ := op_both (hP s c hp) hM hC oM oX
  rw [ew] at rx
  have hx : ∃ fs, mget h1 307 = some (.inr (12, fs)) := by
    obtain ⟨fx, v, h', k, n, s1, z1, z2, z3, z4, z5, z6⟩ := hP s c hp S.1 (okL_ent asM oM) (fun _ h => by cases h) S.1 _ (fun i v h => by
      have := relL_ent asM 0 i v h
      rwa [Nat.zero_add] at this) hM
    obtain ⟨fy, v2, hy, k2, n2, c1, y1, y2, y3, y4, y5, y6⟩ := z6 S.1 (okL_ent asX oX) (fun _ h => by cases h) S.1 _ (fun i v h => by
      have := relL_ent asX 0 i v h
      rwa [Nat.zero_add] at this) hC
    have e := run_same y1 rx
    injection e with e1 e2
    injection e2 with e2 e3
    subst e2
    obtain ⟨fs, b1, -⟩ := (repM_up hM y3).2.2.1
    exact ⟨fs, b1⟩
  refine ⟨u, u', f, k1, n1, h1, g, ⟨o2 _ rfl, o3 _ rfl⟩, rx, hx, f2, h2, rm, s', c', ?_, ⟨a1, a2⟩, ⟨?_, ?_⟩, ?_, ?_⟩
  · have e : ((m + 1 : Nat) : Int) = (m : Int) + 1 := by omega
    rw [e]
    exact hp'
  · show 64 + (S.2.1 + k1) = nxt c'
    rw [← a3, ← r1]
    exact (Nat.add_assoc _ _ _).symm
  · show S.2.2 + n1 = slo c'
    rw [← a4, ← r2]
  · exact le_rm q1 r3
  · exact le_rm q2 r4
/-- the same int -/
def eqI (v v' : VV) : Prop := ∃ z : Int, v = vi z ∧ v' = vi z
/-- the same long -/
def eqL (v v' : VV) : Prop := ∃ z : Int, v = vl z ∧ v' = vl z
/-- two ints -/
def anyI (v v' : VV) : Prop := ∃ z z' : Int, v = vi z ∧ v' = vi z'
theorem two_i (hI : LI m S) (hP : ∀ s c, PAIR m s c → ∀ h0, cm iv L h0 412 M asM s (qi fun r s' => ∀ h0', ck iv L h0' 412 X asX c (qi (PQ (m + 1) c r s')))) (oM : okS asM) (oX : okS asX) : TWO iv L M X m asM asX S eqI :=
  two_g hI (fun s c hp h0 => wc_mono (hP s c hp h0) (Nat.le_refl _) (by
    rintro _ s' ⟨r, rfl, h⟩
    exact fun h0' => wc_mono (h h0') (Nat.le_refl _) (by
      rintro _ c' ⟨r', rfl, rfl, h1, h2⟩
      exact ⟨_, _, rfl, rfl, ⟨r, rfl, rfl⟩, h1, h2⟩))) oM oX
theorem two_l (hI : LI m S) (hP : ∀ s c, PAIR m s c → ∀ h0, cm iv L h0 412 M asM s (ql fun r s' => ∀ h0', ck iv L h0' 412 X asX c (ql (PQ (m + 1) c r s')))) (oM : okS asM) (oX : okS asX) : TWO iv L M X m asM asX S eqL :=
  two_g hI (fun s c hp h0 => wc_mono (hP s c hp h0) (Nat.le_refl _) (by
    rintro _ s' ⟨r, rfl, h⟩
    exact fun h0' => wc_mono (h h0') (Nat.le_refl _) (by
      rintro _ c' ⟨r', rfl, rfl, h1, h2⟩
      exact ⟨_, _, rfl, rfl, ⟨r, rfl, rfl⟩, h1, h2⟩))) oM oX
theorem two_a (hI : LI m S) (hP : ∀ s c, PAIR m s c → ∀ h0, cm iv L h0 412 M asM s (qi fun r s' => ∀ h0', ck iv L h0' 412 X asX c (qi (fun _ e => PAIR (m + 1) s' e ∧ RQ c e)))) (oM : okS asM) (oX : okS asX) : TWO iv L M X m asM asX S anyI :=
  two_g hI (fun s c hp h0 => wc_mono (hP s c hp h0) (Nat.le_refl _) (by
    rintro _ s' ⟨r, rfl, h⟩
    exact fun h0' => wc_mono (h h0') (Nat.le_refl _) (by
      rintro _ c' ⟨r', rfl, h1, h2⟩
      exact ⟨_, _, rfl, rfl, ⟨r, r', rfl, rfl⟩, h1, h2⟩))) oM oX
end
section
variable {S : Type} {iv : List (Int × Int)} {L : Nat} {Rp : S → MH → Prop} {cs : S → Nat × Nat} {d M pc p1 p2 p3 p4 x1 y x y1 y2 y3 y4 x4 : Nat} {ls : LV} {st : List VV} {s : S} {Q : Option VV → S → Prop}
theorem okS_n : okS [] := fun _ h => by cases h
/-- whether an int is not 0 -/
def b01 (a : Int) : Int := if a = 0 then 0 else 1
theorem b01_in (a : Int) : inR (b01 a) := by unfold b01 inR; by_cases h : a = 0 <;> simp only [h, if_true, if_false] <;> omega
theorem w_bool {off n a : Int} (e1 : (mG L (fun _ => 0)).1 M pc = some (.ifCond .eq off, p1, p3, y)) (e2 : (mG L (fun _ => 0)).1 M p1 = some (.iconst 1, p2, x1, y1)) (e3 : (mG L (fun _ => 0)).1 M p2 = some (.goto n, y2, p4, y3)) (e4 : (mG L (fun _ => 0)).1 M p3 = some (.iconst 0, p4, x4, y4)) (hw : wp iv L Rp cs d M p4 ls (vi (b01 a) :: st) s Q) : wp iv L Rp cs d M pc ls (vi a :: st) s Q := by
  refine w_if_eq e1 (fun h => ?_) (fun h => ?_)
  · refine w_iconst e4 rfl ?_
    have e : b01 a = 0 := if_pos h
    rwa [e] at hw
  · refine w_iconst e2 rfl (w_goto e3 ?_)
    have e : b01 a = 1 := if_neg h
    rwa [e] at hw
end
