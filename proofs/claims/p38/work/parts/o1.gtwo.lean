section
/-! Both calls of a row of the script, between two rows. -/
/-- between two calls of the law: `m` calls are behind -/
def LI (m : Nat) (S : CS) : Prop := ∃ s c, PAIR m s c ∧ (RepM S.1 s S.1 ∧ RepC S.1 c S.1) ∧ (64 + S.2.1 = nxt c ∧ S.2.2 = slo c) ∧ nxt c + PHI c ≤ 2233 + 130 * m ∧ slo c + 7 * PHI c ≤ 157804 + 1200 * m
theorem LI_0 : LI 0 (HM0, 289, 144644) := ⟨s00, c00, PAIR00, ⟨repM0, repC0⟩, ⟨rfl, rfl⟩, by rw [PHI00]; exact Nat.le_refl _, by rw [PHI00]; exact Nat.le_refl _⟩
theorem LI_rm {m : Nat} {S : CS} (h : LI m S) (hm : m ≤ 512) : S.2.1 ≤ 600000 ∧ S.2.2 ≤ 7302249 := by
  obtain ⟨s, c, -, -, ⟨h1, h2⟩, h3, h4⟩ := h
  have a1 : S.2.1 ≤ nxt c := by rw [← h1]; exact Nat.le_add_left _ _
  have a2 : nxt c ≤ nxt c + PHI c := Nat.le_add_right _ _
  have a3 : 2233 + 130 * m ≤ 600000 := by omega
  have a4 : slo c ≤ slo c + 7 * PHI c := Nat.le_add_right _ _
  have a5 : 157804 + 1200 * m ≤ 7302249 := by
    have : 1200 * m ≤ 1200 * 512 := Nat.mul_le_mul_left _ hm
    exact Nat.le_trans (Nat.add_le_add_left this _) (by decide)
  exact ⟨Nat.le_trans a1 (Nat.le_trans a2 (Nat.le_trans h3 a3)), by rw [h2]; exact Nat.le_trans a4 (Nat.le_trans h4 a5)⟩
theorem le_rm {p q m a b : Nat} (h1 : p ≤ q + b) (h2 : q ≤ a + b * m) : p ≤ a + b * (m + 1) := by
  rw [Nat.mul_succ]
  generalize b * m = k at h2 ⊢
  omega
section
variable {iv : List (Int × Int)} {L : Nat} {M X m : Nat} {asM asX : List VV} {S : CS}
theorem LI_64 (h : LI m S) : ∃ fs, mget S.1 64 = some (.inr (0, fs)) := by
  obtain ⟨s, c, ⟨A, t, K, Sh, V, W, hM, hD⟩, ⟨-, hC⟩, -⟩ := h
  obtain ⟨fs, e1, e2⟩ := hC.2.2.2.1 64 0 hD.1.1.1.1.1.1 (by decide)
  exact ⟨fs, e1⟩
theorem emb_i {w : VV} {z : Int} (ow : okV w) (oz : inR z) (h : emb w = emb (vi z)) : w = vi z := by
  rcases w with a | a | a
  · have h : Value.int (Int32.ofInt a) = Value.int (Int32.ofInt z) := h
    injection h with h
    have h1 : inR a := ow
    have e : (Int32.ofInt a).toInt = (Int32.ofInt z).toInt := by rw [h]
    rw [i_to h1, i_to oz] at e
    rw [e]
  · cases h
  · have h : (if a = 2 then Value.null else Value.ref a) = Value.int (Int32.ofInt z) := h
    by_cases g : a = 2
    · rw [if_pos g] at h; cases h
    · rw [if_neg g] at h; cases h
/-- the two runs, in any relation of the two answers -/
def TWO (iv : List (Int × Int)) (L M X m : Nat) (asM asX : List VV) (S : CS) (G : VV → VV → Prop) : Prop :=
  (∃ fs, mget S.1 64 = some (.inr (0, fs))) ∧ ∃ v v' f k1 n1 h1, G v v' ∧ (okV v ∧ okV v') ∧ mrun iv (mG L (fun _ => 0)) f 412 X 0 (ment 0 (ems asX)) [] S.1 0 0 = some ((some v').map emb, h1, k1, n1) ∧ (∃ fs, mget h1 307 = some (.inr (12, fs))) ∧ ∃ f2 h2, mrun iv (mG L (fun _ => 0)) f2 412 M 0 (ment 0 (ems asM)) [] h1 0 0 = some ((some v).map emb, h2, 0, 0) ∧ LI (m + 1) (h2, S.2.1 + k1, S.2.2 + n1)
theorem two_g {G : VV → VV → Prop} (hI : LI m S) (hP : ∀ s c, PAIR m s c → ∀ h0, cm iv L h0 412 M asM s (fun v s' => ∀ h0', ck iv L h0' 412 X asX c (fun v' c' => ∃ u u', v = some u ∧ v' = some u' ∧ G u u' ∧ PAIR (m + 1) s' c' ∧ RQ c c'))) (oM : okS asM) (oX : okS asX) : TWO iv L M X m asM asX S G := by
  refine ⟨LI_64 hI, ?_⟩
  obtain ⟨s, c, hp, ⟨hM, hC⟩, ⟨r1, r2⟩, r3, r4⟩ := hI
  obtain ⟨f, k1, n1, h1, w1, rx, f2, h2, w2, s', c', w', rm, ew, ⟨o1, o2, o3⟩, ⟨u, u', rfl, rfl, g, hp', q1, q2⟩, ⟨a1, a2⟩, a3, a4⟩ := op_both (hP s c hp) hM hC oM oX
  rw [ew] at rx
  have hx : ∃ fs, mget h1 307 = some (.inr (12, fs)) := by
    obtain ⟨fx, v, h', k, n, s1, z1, z2, z3, z4, z5, z6⟩ := hP s c hp S.1 (okL_ent asM oM) (fun _ h => by cases h) S.1 _ (fun i v h => by
      have := relL_ent asM 0 i v h
      rwa [Nat.zero_add] at this) hM
    obtain ⟨fy, v2, hy, k2, n2, c1, y1, y2, y3, y4, y5, y6⟩ := z6 S.1 (okL_ent asX oX) (fun _ h => by cases h) S.1 _ (fun i v h => by
      have := relL_ent asX 0 i v h
      rwa [Nat.zero_add] at this) hC
    have e := run_same y1 rx
    injection e with e1 e2
    injection e2 with e2 e3
    subst e2
    obtain ⟨fs, b1, -⟩ := (repM_up hM y3).2.2.1
    exact ⟨fs, b1⟩
  refine ⟨u, u', f, k1, n1, h1, g, ⟨o2 _ rfl, o3 _ rfl⟩, rx, hx, f2, h2, rm, s', c', ?_, ⟨a1, a2⟩, ⟨?_, ?_⟩, ?_, ?_⟩
  · have e : ((m + 1 : Nat) : Int) = (m : Int) + 1 := by omega
    rw [e]
    exact hp'
  · show 64 + (S.2.1 + k1) = nxt c'
    rw [← a3, ← r1]
    exact (Nat.add_assoc _ _ _).symm
  · show S.2.2 + n1 = slo c'
    rw [← a4, ← r2]
  · exact le_rm q1 r3
  · exact le_rm q2 r4
/-- the same int -/
def eqI (v v' : VV) : Prop := ∃ z : Int, v = vi z ∧ v' = vi z
/-- the same long -/
def eqL (v v' : VV) : Prop := ∃ z : Int, v = vl z ∧ v' = vl z
/-- two ints -/
def anyI (v v' : VV) : Prop := ∃ z z' : Int, v = vi z ∧ v' = vi z'
theorem two_i (hI : LI m S) (hP : ∀ s c, PAIR m s c → ∀ h0, cm iv L h0 412 M asM s (qi fun r s' => ∀ h0', ck iv L h0' 412 X asX c (qi (PQ (m + 1) c r s')))) (oM : okS asM) (oX : okS asX) : TWO iv L M X m asM asX S eqI :=
  two_g hI (fun s c hp h0 => wc_mono (hP s c hp h0) (Nat.le_refl _) (by
    rintro _ s' ⟨r, rfl, h⟩
    exact fun h0' => wc_mono (h h0') (Nat.le_refl _) (by
      rintro _ c' ⟨r', rfl, rfl, h1, h2⟩
      exact ⟨_, _, rfl, rfl, ⟨r, rfl, rfl⟩, h1, h2⟩))) oM oX
theorem two_l (hI : LI m S) (hP : ∀ s c, PAIR m s c → ∀ h0, cm iv L h0 412 M asM s (ql fun r s' => ∀ h0', ck iv L h0' 412 X asX c (ql (PQ (m + 1) c r s')))) (oM : okS asM) (oX : okS asX) : TWO iv L M X m asM asX S eqL :=
  two_g hI (fun s c hp h0 => wc_mono (hP s c hp h0) (Nat.le_refl _) (by
    rintro _ s' ⟨r, rfl, h⟩
    exact fun h0' => wc_mono (h h0') (Nat.le_refl _) (by
      rintro _ c' ⟨r', rfl, rfl, h1, h2⟩
      exact ⟨_, _, rfl, rfl, ⟨r, rfl, rfl⟩, h1, h2⟩))) oM oX
theorem two_a (hI : LI m S) (hP : ∀ s c, PAIR m s c → ∀ h0, cm iv L h0 412 M asM s (qi fun r s' => ∀ h0', ck iv L h0' 412 X asX c (qi (fun _ e => PAIR (m + 1) s' e ∧ RQ c e)))) (oM : okS asM) (oX : okS asX) : TWO iv L M X m asM asX S anyI :=
  two_g hI (fun s c hp h0 => wc_mono (hP s c hp h0) (Nat.le_refl _) (by
    rintro _ s' ⟨r, rfl, h⟩
    exact fun h0' => wc_mono (h h0') (Nat.le_refl _) (by
      rintro _ c' ⟨r', rfl, h1, h2⟩
      exact ⟨_, _, rfl, rfl, ⟨r, r', rfl, rfl⟩, h1, h2⟩))) oM oX
end
section
variable {S : Type} {iv : List (Int × Int)} {L : Nat} {Rp : S → MH → Prop} {cs : S → Nat × Nat} {d M pc p1 p2 p3 p4 x1 y x y1 y2 y3 y4 x4 : Nat} {ls : LV} {st : List VV} {s : S} {Q : Option VV → S → Prop}
theorem okS_n : okS [] := fun _ h => by cases h
/-- whether an int is not 0 -/
def b01 (a : Int) : Int := if a = 0 then 0 else 1
theorem b01_in (a : Int) : inR (b01 a) := by unfold b01 inR; by_cases h : a = 0 <;> simp only [h, if_true, if_false] <;> omega
theorem w_bool {off n a : Int} (e1 : (mG L (fun _ => 0)).1 M pc = some (.ifCond .eq off, p1, p3, y)) (e2 : (mG L (fun _ => 0)).1 M p1 = some (.iconst 1, p2, x1, y1)) (e3 : (mG L (fun _ => 0)).1 M p2 = some (.goto n, y2, p4, y3)) (e4 : (mG L (fun _ => 0)).1 M p3 = some (.iconst 0, p4, x4, y4)) (hw : wp iv L Rp cs d M p4 ls (vi (b01 a) :: st) s Q) : wp iv L Rp cs d M pc ls (vi a :: st) s Q := by
  refine w_if_eq e1 (fun h => ?_) (fun h => ?_)
  · refine w_iconst e4 rfl ?_
    have e : b01 a = 0 := if_pos h
    rwa [e] at hw
  · refine w_iconst e2 rfl (w_goto e3 ?_)
    have e : b01 a = 1 := if_neg h
    rwa [e] at hw
end
end
section
/-! The rows of the law, its loop. Printed by wip/gen2/lawgen.py. -/
section
variable {L m : Nat} {xs : Nat → Int32} {S : CS} {i : Int} {Q : Option VV → CS → Prop}
/-- kind -/
theorem lc_0 (hI : LI m S) (hm : (m : Int) < 512) (hi : 0 ≤ i) (hL : i + 3 < L) (h20 : L ≤ 2048) (hK : ∀ S, LI (m + 1) S → wp (ivS L xs) L RpK csK 413 255 1192 [lr 0, lr 64, lr 307, li i] [] S Q) : wp (ivS L xs) L RpK csK 413 255 200 [lr 0, lr 64, lr 307, li i] [] S Q := by
  obtain ⟨H, k, n0⟩ := S
  have b1 : 0 ≤ i + 1 ∧ i + 1 < (L : Int) := by omega
  have r1 : inR (i + 1) := by unfold inR; omega
  have b2 : 0 ≤ i + 2 ∧ i + 2 < (L : Int) := by omega
  have r2 : inR (i + 2) := by unfold inR; omega
  have b3 : 0 ≤ i + 3 ∧ i + 3 < (L : Int) := by omega
  have r3 : inR (i + 3) := by unfold inR; omega
  obtain ⟨⟨fx, gx⟩, v, v', f, k1, n1, h1, ⟨z, rfl, rfl⟩, ⟨oM, oX⟩, rx, ⟨fm, gm⟩, f2, h2, rm, hI'⟩ := two_i (iv := ivS L xs) (L := L) (M := 68) (X := 2) (asM := [vr 307, vi (b01 (xs (i + 1).toNat).toInt), vi (xs (i + 2).toNat).toInt, vi (xs (i + 3).toNat).toInt]) (asX := [vr 64, vi (b01 (xs (i + 1).toNat).toInt), vi (xs (i + 2).toNat).toInt, vi (xs (i + 3).toNat).toInt]) hI (fun s c hp h0 => ps_kind hp (by decide) (by decide)) (okS_c trivial (okS_ci (b01_in _) (okS_ci (i32_ok _).2 (okS_ci (i32_ok _).2 okS_n)))) (okS_c trivial (okS_ci (b01_in _) (okS_ci (i32_ok _).2 (okS_ci (i32_ok _).2 okS_n))))
  refine w_aload_n rfl rfl ?_
  refine w_aload_n rfl rfl ?_
  refine w_iload_n rfl rfl ?_
  refine w_iconst rfl rfl ?_
  refine w_iadd rfl r1 ?_
  refine w_scr rfl b1 ?_
  refine w_bool rfl rfl rfl rfl ?_
  refine w_aload_n rfl rfl ?_
  refine w_iload_n rfl rfl ?_
  refine w_iconst rfl rfl ?_
  refine w_iadd rfl r2 ?_
  refine w_scr rfl b2 ?_
  refine w_aload_n rfl rfl ?_
  refine w_iload_n rfl rfl ?_
  refine w_iconst rfl rfl ?_
  refine w_iadd rfl r3 ?_
  refine w_scr rfl b3 ?_
  refine law_virt (p := 64) (as := [vi (b01 (xs (i + 1).toNat).toInt), vi (xs (i + 2).toNat).toInt, vi (xs (i + 3).toNat).toInt]) (r := []) rfl rfl rfl rfl (by decide) gx rfl rfl rx (fun _ e => by cases e; exact oX) ?_
  show wp (ivS L xs) L RpK csK 413 255 227 [lr 0, lr 64, lr 307, li i] [vi z] (h1, k + k1, n0 + n1) Q
  refine w_pop rfl rfl ?_
  refine w_aload_n rfl rfl ?_
  refine w_aload_n rfl rfl ?_
  refine w_iload_n rfl rfl ?_
  refine w_iconst rfl rfl ?_
  refine w_iadd rfl r1 ?_
  refine w_scr rfl b1 ?_
  refine w_bool rfl rfl rfl rfl ?_
  refine w_aload_n rfl rfl ?_
  refine w_iload_n rfl rfl ?_
  refine w_iconst rfl rfl ?_
  refine w_iadd rfl r2 ?_
  refine w_scr rfl b2 ?_
  refine w_aload_n rfl rfl ?_
  refine w_iload_n rfl rfl ?_
  refine w_iconst rfl rfl ?_
  refine w_iadd rfl r3 ?_
  refine w_scr rfl b3 ?_
  refine law_virt (p := 307) (as := [vi (b01 (xs (i + 1).toNat).toInt), vi (xs (i + 2).toNat).toInt, vi (xs (i + 3).toNat).toInt]) (r := []) rfl rfl rfl rfl (by decide) gm rfl rfl rm (fun _ e => by cases e; exact oM) ?_
  show wp (ivS L xs) L RpK csK 413 255 255 [lr 0, lr 64, lr 307, li i] [vi z] (h2, k + k1 + 0, n0 + n1 + 0) Q
  refine w_pop rfl rfl ?_
  refine w_goto rfl ?_
  exact hK _ hI'
/-- kindOf -/
theorem lc_1 (hI : LI m S) (hm : (m : Int) < 512) (hi : 0 ≤ i) (hL : i + 3 < L) (h20 : L ≤ 2048) (hK : ∀ S, LI (m + 1) S → wp (ivS L xs) L RpK csK 413 255 1192 [lr 0, lr 64, lr 307, li i] [] S Q) : wp (ivS L xs) L RpK csK 413 255 259 [lr 0, lr 64, lr 307, li i] [] S Q := by
  obtain ⟨H, k, n0⟩ := S
  have b1 : 0 ≤ i + 1 ∧ i + 1 < (L : Int) := by omega
  have r1 : inR (i + 1) := by unfold inR; omega
  have b2 : 0 ≤ i + 2 ∧ i + 2 < (L : Int) := by omega
  have r2 : inR (i + 2) := by unfold inR; omega
  obtain ⟨⟨fx, gx⟩, v, v', f, k1, n1, h1, ⟨z, rfl, rfl⟩, ⟨oM, oX⟩, rx, ⟨fm, gm⟩, f2, h2, rm, hI'⟩ := two_i (iv := ivS L xs) (L := L) (M := 69) (X := 3) (asM := [vr 307, vi (xs (i + 1).toNat).toInt, vi (xs (i + 2).toNat).toInt]) (asX := [vr 64, vi (xs (i + 1).toNat).toInt, vi (xs (i + 2).toNat).toInt]) hI (fun s c hp h0 => ps_kindOf hp (by decide) (by decide)) (okS_c trivial (okS_ci (i32_ok _).2 (okS_ci (i32_ok _).2 okS_n))) (okS_c trivial (okS_ci (i32_ok _).2 (okS_ci (i32_ok _).2 okS_n)))
  refine w_aload_n rfl rfl ?_
  refine w_aload_n rfl rfl ?_
  refine w_iload_n rfl rfl ?_
  refine w_iconst rfl rfl ?_
  refine w_iadd rfl r1 ?_
  refine w_scr rfl b1 ?_
  refine w_aload_n rfl rfl ?_
  refine w_iload_n rfl rfl ?_
  refine w_iconst rfl rfl ?_
  refine w_iadd rfl r2 ?_
  refine w_scr rfl b2 ?_
  refine law_virt (p := 64) (as := [vi (xs (i + 1).toNat).toInt, vi (xs (i + 2).toNat).toInt]) (r := []) rfl rfl rfl rfl (by decide) gx rfl rfl rx (fun _ e => by cases e; exact oX) ?_
  show wp (ivS L xs) L RpK csK 413 255 273 [lr 0, lr 64, lr 307, li i] [vi z] (h1, k + k1, n0 + n1) Q
  refine w_pop rfl rfl ?_
  refine w_aload_n rfl rfl ?_
  refine w_aload_n rfl rfl ?_
  refine w_iload_n rfl rfl ?_
  refine w_iconst rfl rfl ?_
  refine w_iadd rfl r1 ?_
  refine w_scr rfl b1 ?_
  refine w_aload_n rfl rfl ?_
  refine w_iload_n rfl rfl ?_
  refine w_iconst rfl rfl ?_
  refine w_iadd rfl r2 ?_
  refine w_scr rfl b2 ?_
  refine law_virt (p := 307) (as := [vi (xs (i + 1).toNat).toInt, vi (xs (i + 2).toNat).toInt]) (r := []) rfl rfl rfl rfl (by decide) gm rfl rfl rm (fun _ e => by cases e; exact oM) ?_
  show wp (ivS L xs) L RpK csK 413 255 288 [lr 0, lr 64, lr 307, li i] [vi z] (h2, k + k1 + 0, n0 + n1 + 0) Q
  refine w_pop rfl rfl ?_
  refine w_goto rfl ?_
  exact hK _ hI'
/-- meet -/
theorem lc_2 (hI : LI m S) (hm : (m : Int) < 512) (hi : 0 ≤ i) (hL : i + 3 < L) (h20 : L ≤ 2048) (hK : ∀ S, LI (m + 1) S → wp (ivS L xs) L RpK csK 413 255 1192 [lr 0, lr 64, lr 307, li i] [] S Q) : wp (ivS L xs) L RpK csK 413 255 292 [lr 0, lr 64, lr 307, li i] [] S Q := by
  obtain ⟨H, k, n0⟩ := S
  have b1 : 0 ≤ i + 1 ∧ i + 1 < (L : Int) := by omega
  have r1 : inR (i + 1) := by unfold inR; omega
  have b2 : 0 ≤ i + 2 ∧ i + 2 < (L : Int) := by omega
  have r2 : inR (i + 2) := by unfold inR; omega
  obtain ⟨⟨fx, gx⟩, v, v', f, k1, n1, h1, ⟨z, rfl, rfl⟩, ⟨oM, oX⟩, rx, ⟨fm, gm⟩, f2, h2, rm, hI'⟩ := two_i (iv := ivS L xs) (L := L) (M := 72) (X := 4) (asM := [vr 307, vi (xs (i + 1).toNat).toInt, vi (xs (i + 2).toNat).toInt]) (asX := [vr 64, vi (xs (i + 1).toNat).toInt, vi (xs (i + 2).toNat).toInt]) hI (fun s c hp h0 => ps_meet hp (by decide) (by decide)) (okS_c trivial (okS_ci (i32_ok _).2 (okS_ci (i32_ok _).2 okS_n))) (okS_c trivial (okS_ci (i32_ok _).2 (okS_ci (i32_ok _).2 okS_n)))
  refine w_aload_n rfl rfl ?_
  refine w_aload_n rfl rfl ?_
  refine w_iload_n rfl rfl ?_
  refine w_iconst rfl rfl ?_
  refine w_iadd rfl r1 ?_
  refine w_scr rfl b1 ?_
  refine w_aload_n rfl rfl ?_
  refine w_iload_n rfl rfl ?_
  refine w_iconst rfl rfl ?_
  refine w_iadd rfl r2 ?_
  refine w_scr rfl b2 ?_
  refine law_virt (p := 64) (as := [vi (xs (i + 1).toNat).toInt, vi (xs (i + 2).toNat).toInt]) (r := []) rfl rfl rfl rfl (by decide) gx rfl rfl rx (fun _ e => by cases e; exact oX) ?_
  show wp (ivS L xs) L RpK csK 413 255 306 [lr 0, lr 64, lr 307, li i] [vi z] (h1, k + k1, n0 + n1) Q
  refine w_pop rfl rfl ?_
  refine w_aload_n rfl rfl ?_
  refine w_aload_n rfl rfl ?_
  refine w_iload_n rfl rfl ?_
  refine w_iconst rfl rfl ?_
  refine w_iadd rfl r1 ?_
  refine w_scr rfl b1 ?_
  refine w_aload_n rfl rfl ?_
  refine w_iload_n rfl rfl ?_
  refine w_iconst rfl rfl ?_
  refine w_iadd rfl r2 ?_
  refine w_scr rfl b2 ?_
  refine law_virt (p := 307) (as := [vi (xs (i + 1).toNat).toInt, vi (xs (i + 2).toNat).toInt]) (r := []) rfl rfl rfl rfl (by decide) gm rfl rfl rm (fun _ e => by cases e; exact oM) ?_
  show wp (ivS L xs) L RpK csK 413 255 321 [lr 0, lr 64, lr 307, li i] [vi z] (h2, k + k1 + 0, n0 + n1 + 0) Q
  refine w_pop rfl rfl ?_
  refine w_goto rfl ?_
  exact hK _ hI'
/-- nodes -/
theorem lc_3 (hI : LI m S) (hm : (m : Int) < 512) (hi : 0 ≤ i) (hL : i + 3 < L) (h20 : L ≤ 2048) (hK : ∀ S, LI (m + 1) S → wp (ivS L xs) L RpK csK 413 255 1192 [lr 0, lr 64, lr 307, li i] [] S Q) : wp (ivS L xs) L RpK csK 413 255 325 [lr 0, lr 64, lr 307, li i] [] S Q := by
  obtain ⟨H, k, n0⟩ := S
  obtain ⟨⟨fx, gx⟩, v, v', f, k1, n1, h1, ⟨z, rfl, rfl⟩, ⟨oM, oX⟩, rx, ⟨fm, gm⟩, f2, h2, rm, hI'⟩ := two_i (iv := ivS L xs) (L := L) (M := 82) (X := 5) (asM := [vr 307]) (asX := [vr 64]) hI (fun s c hp h0 => ps_nodes hp (by decide) (by decide)) (okS_c trivial okS_n) (okS_c trivial okS_n)
  refine w_aload_n rfl rfl ?_
  refine law_virt (p := 64) (as := []) (r := []) rfl rfl rfl rfl (by decide) gx rfl rfl rx (fun _ e => by cases e; exact oX) ?_
  show wp (ivS L xs) L RpK csK 413 255 329 [lr 0, lr 64, lr 307, li i] [vi z] (h1, k + k1, n0 + n1) Q
  refine w_pop rfl rfl ?_
  refine w_aload_n rfl rfl ?_
  refine law_virt (p := 307) (as := []) (r := []) rfl rfl rfl rfl (by decide) gm rfl rfl rm (fun _ e => by cases e; exact oM) ?_
  show wp (ivS L xs) L RpK csK 413 255 334 [lr 0, lr 64, lr 307, li i] [vi z] (h2, k + k1 + 0, n0 + n1 + 0) Q
  refine w_pop rfl rfl ?_
  refine w_goto rfl ?_
  exact hK _ hI'
/-- cursor -/
theorem lc_4 (hI : LI m S) (hm : (m : Int) < 512) (hi : 0 ≤ i) (hL : i + 3 < L) (h20 : L ≤ 2048) (hK : ∀ S, LI (m + 1) S → wp (ivS L xs) L RpK csK 413 255 1192 [lr 0, lr 64, lr 307, li i] [] S Q) : wp (ivS L xs) L RpK csK 413 255 338 [lr 0, lr 64, lr 307, li i] [] S Q := by
  obtain ⟨H, k, n0⟩ := S
  obtain ⟨⟨fx, gx⟩, v, v', f, k1, n1, h1, ⟨z, rfl, rfl⟩, ⟨oM, oX⟩, rx, ⟨fm, gm⟩, f2, h2, rm, hI'⟩ := two_i (iv := ivS L xs) (L := L) (M := 83) (X := 6) (asM := [vr 307]) (asX := [vr 64]) hI (fun s c hp h0 => ps_cursor hp (by decide) (by decide)) (okS_c trivial okS_n) (okS_c trivial okS_n)
  refine w_aload_n rfl rfl ?_
  refine law_virt (p := 64) (as := []) (r := []) rfl rfl rfl rfl (by decide) gx rfl rfl rx (fun _ e => by cases e; exact oX) ?_
  show wp (ivS L xs) L RpK csK 413 255 342 [lr 0, lr 64, lr 307, li i] [vi z] (h1, k + k1, n0 + n1) Q
  refine w_pop rfl rfl ?_
  refine w_aload_n rfl rfl ?_
  refine law_virt (p := 307) (as := []) (r := []) rfl rfl rfl rfl (by decide) gm rfl rfl rm (fun _ e => by cases e; exact oM) ?_
  show wp (ivS L xs) L RpK csK 413 255 347 [lr 0, lr 64, lr 307, li i] [vi z] (h2, k + k1 + 0, n0 + n1 + 0) Q
  refine w_pop rfl rfl ?_
  refine w_goto rfl ?_
  exact hK _ hI'
/-- told -/
theorem lc_5 (hI : LI m S) (hm : (m : Int) < 512) (hi : 0 ≤ i) (hL : i + 3 < L) (h20 : L ≤ 2048) (hK : ∀ S, LI (m + 1) S → wp (ivS L xs) L RpK csK 413 255 1192 [lr 0, lr 64, lr 307, li i] [] S Q) : wp (ivS L xs) L RpK csK 413 255 351 [lr 0, lr 64, lr 307, li i] [] S Q := by
  obtain ⟨H, k, n0⟩ := S
  have b1 : 0 ≤ i + 1 ∧ i + 1 < (L : Int) := by omega
  have r1 : inR (i + 1) := by unfold inR; omega
  have b2 : 0 ≤ i + 2 ∧ i + 2 < (L : Int) := by omega
  have r2 : inR (i + 2) := by unfold inR; omega
  obtain ⟨⟨fx, gx⟩, v, v', f, k1, n1, h1, ⟨z, rfl, rfl⟩, ⟨oM, oX⟩, rx, ⟨fm, gm⟩, f2, h2, rm, hI'⟩ := two_i (iv := ivS L xs) (L := L) (M := 94) (X := 7) (asM := [vr 307, vi (xs (i + 1).toNat).toInt, vi (xs (i + 2).toNat).toInt]) (asX := [vr 64, vi (xs (i + 1).toNat).toInt, vi (xs (i + 2).toNat).toInt]) hI (fun s c hp h0 => ps_told hp (by decide) (by decide)) (okS_c trivial (okS_ci (i32_ok _).2 (okS_ci (i32_ok _).2 okS_n))) (okS_c trivial (okS_ci (i32_ok _).2 (okS_ci (i32_ok _).2 okS_n)))
  refine w_aload_n rfl rfl ?_
  refine w_aload_n rfl rfl ?_
  refine w_iload_n rfl rfl ?_
  refine w_iconst rfl rfl ?_
  refine w_iadd rfl r1 ?_
  refine w_scr rfl b1 ?_
  refine w_aload_n rfl rfl ?_
  refine w_iload_n rfl rfl ?_
  refine w_iconst rfl rfl ?_
  refine w_iadd rfl r2 ?_
  refine w_scr rfl b2 ?_
  refine law_virt (p := 64) (as := [vi (xs (i + 1).toNat).toInt, vi (xs (i + 2).toNat).toInt]) (r := []) rfl rfl rfl rfl (by decide) gx rfl rfl rx (fun _ e => by cases e; exact oX) ?_
  show wp (ivS L xs) L RpK csK 413 255 365 [lr 0, lr 64, lr 307, li i] [vi z] (h1, k + k1, n0 + n1) Q
  refine w_pop rfl rfl ?_
  refine w_aload_n rfl rfl ?_
  refine w_aload_n rfl rfl ?_
  refine w_iload_n rfl rfl ?_
  refine w_iconst rfl rfl ?_
  refine w_iadd rfl r1 ?_
  refine w_scr rfl b1 ?_
  refine w_aload_n rfl rfl ?_
  refine w_iload_n rfl rfl ?_
  refine w_iconst rfl rfl ?_
  refine w_iadd rfl r2 ?_
  refine w_scr rfl b2 ?_
  refine law_virt (p := 307) (as := [vi (xs (i + 1).toNat).toInt, vi (xs (i + 2).toNat).toInt]) (r := []) rfl rfl rfl rfl (by decide) gm rfl rfl rm (fun _ e => by cases e; exact oM) ?_
  show wp (ivS L xs) L RpK csK 413 255 380 [lr 0, lr 64, lr 307, li i] [vi z] (h2, k + k1 + 0, n0 + n1 + 0) Q
  refine w_pop rfl rfl ?_
  refine w_goto rfl ?_
  exact hK _ hI'
/-- part -/
theorem lc_6 (hI : LI m S) (hm : (m : Int) < 512) (hi : 0 ≤ i) (hL : i + 3 < L) (h20 : L ≤ 2048) (hK : ∀ S, LI (m + 1) S → wp (ivS L xs) L RpK csK 413 255 1192 [lr 0, lr 64, lr 307, li i] [] S Q) : wp (ivS L xs) L RpK csK 413 255 384 [lr 0, lr 64, lr 307, li i] [] S Q := by
  obtain ⟨H, k, n0⟩ := S
  have b1 : 0 ≤ i + 1 ∧ i + 1 < (L : Int) := by omega
  have r1 : inR (i + 1) := by unfold inR; omega
  have b2 : 0 ≤ i + 2 ∧ i + 2 < (L : Int) := by omega
  have r2 : inR (i + 2) := by unfold inR; omega
  obtain ⟨⟨fx, gx⟩, v, v', f, k1, n1, h1, ⟨z, rfl, rfl⟩, ⟨oM, oX⟩, rx, ⟨fm, gm⟩, f2, h2, rm, hI'⟩ := two_i (iv := ivS L xs) (L := L) (M := 95) (X := 8) (asM := [vr 307, vi (xs (i + 1).toNat).toInt, vi (xs (i + 2).toNat).toInt]) (asX := [vr 64, vi (xs (i + 1).toNat).toInt, vi (xs (i + 2).toNat).toInt]) hI (fun s c hp h0 => ps_part hp (by omega) (by decide) (by decide)) (okS_c trivial (okS_ci (i32_ok _).2 (okS_ci (i32_ok _).2 okS_n))) (okS_c trivial (okS_ci (i32_ok _).2 (okS_ci (i32_ok _).2 okS_n)))
  refine w_aload_n rfl rfl ?_
  refine w_aload_n rfl rfl ?_
  refine w_iload_n rfl rfl ?_
  refine w_iconst rfl rfl ?_
  refine w_iadd rfl r1 ?_
  refine w_scr rfl b1 ?_
  refine w_aload_n rfl rfl ?_
  refine w_iload_n rfl rfl ?_
  refine w_iconst rfl rfl ?_
  refine w_iadd rfl r2 ?_
  refine w_scr rfl b2 ?_
  refine law_virt (p := 64) (as := [vi (xs (i + 1).toNat).toInt, vi (xs (i + 2).toNat).toInt]) (r := []) rfl rfl rfl rfl (by decide) gx rfl rfl rx (fun _ e => by cases e; exact oX) ?_
  show wp (ivS L xs) L RpK csK 413 255 398 [lr 0, lr 64, lr 307, li i] [vi z] (h1, k + k1, n0 + n1) Q
  refine w_pop rfl rfl ?_
  refine w_aload_n rfl rfl ?_
  refine w_aload_n rfl rfl ?_
  refine w_iload_n rfl rfl ?_
  refine w_iconst rfl rfl ?_
  refine w_iadd rfl r1 ?_
  refine w_scr rfl b1 ?_
  refine w_aload_n rfl rfl ?_
  refine w_iload_n rfl rfl ?_
  refine w_iconst rfl rfl ?_
  refine w_iadd rfl r2 ?_
  refine w_scr rfl b2 ?_
  refine law_virt (p := 307) (as := [vi (xs (i + 1).toNat).toInt, vi (xs (i + 2).toNat).toInt]) (r := []) rfl rfl rfl rfl (by decide) gm rfl rfl rm (fun _ e => by cases e; exact oM) ?_
  show wp (ivS L xs) L RpK csK 413 255 413 [lr 0, lr 64, lr 307, li i] [vi z] (h2, k + k1 + 0, n0 + n1 + 0) Q
  refine w_pop rfl rfl ?_
  refine w_goto rfl ?_
  exact hK _ hI'
/-- sign -/
theorem lc_7 (hI : LI m S) (hm : (m : Int) < 512) (hi : 0 ≤ i) (hL : i + 3 < L) (h20 : L ≤ 2048) (hK : ∀ S, LI (m + 1) S → wp (ivS L xs) L RpK csK 413 255 1192 [lr 0, lr 64, lr 307, li i] [] S Q) : wp (ivS L xs) L RpK csK 413 255 417 [lr 0, lr 64, lr 307, li i] [] S Q := by
  obtain ⟨H, k, n0⟩ := S
  have b1 : 0 ≤ i + 1 ∧ i + 1 < (L : Int) := by omega
  have r1 : inR (i + 1) := by unfold inR; omega
  have b2 : 0 ≤ i + 2 ∧ i + 2 < (L : Int) := by omega
  have r2 : inR (i + 2) := by unfold inR; omega
  have b3 : 0 ≤ i + 3 ∧ i + 3 < (L : Int) := by omega
  have r3 : inR (i + 3) := by unfold inR; omega
  obtain ⟨⟨fx, gx⟩, v, v', f, k1, n1, h1, ⟨z, rfl, rfl⟩, ⟨oM, oX⟩, rx, ⟨fm, gm⟩, f2, h2, rm, hI'⟩ := two_i (iv := ivS L xs) (L := L) (M := 97) (X := 9) (asM := [vr 307, vi (xs (i + 1).toNat).toInt, vi (b01 (xs (i + 2).toNat).toInt), vi (xs (i + 3).toNat).toInt]) (asX := [vr 64, vi (xs (i + 1).toNat).toInt, vi (b01 (xs (i + 2).toNat).toInt), vi (xs (i + 3).toNat).toInt]) hI (fun s c hp h0 => ps_sign hp (by have := (i32_ok (xs (i + 3).toNat)).2.2; exact this) (by decide) (by decide)) (okS_c trivial (okS_ci (i32_ok _).2 (okS_ci (b01_in _) (okS_ci (i32_ok _).2 okS_n)))) (okS_c trivial (okS_ci (i32_ok _).2 (okS_ci (b01_in _) (okS_ci (i32_ok _).2 okS_n))))
  refine w_aload_n rfl rfl ?_
  refine w_aload_n rfl rfl ?_
  refine w_iload_n rfl rfl ?_
  refine w_iconst rfl rfl ?_
  refine w_iadd rfl r1 ?_
  refine w_scr rfl b1 ?_
  refine w_aload_n rfl rfl ?_
  refine w_iload_n rfl rfl ?_
  refine w_iconst rfl rfl ?_
  refine w_iadd rfl r2 ?_
  refine w_scr rfl b2 ?_
  refine w_bool rfl rfl rfl rfl ?_
  refine w_aload_n rfl rfl ?_
  refine w_iload_n rfl rfl ?_
  refine w_iconst rfl rfl ?_
  refine w_iadd rfl r3 ?_
  refine w_scr rfl b3 ?_
  refine law_virt (p := 64) (as := [vi (xs (i + 1).toNat).toInt, vi (b01 (xs (i + 2).toNat).toInt), vi (xs (i + 3).toNat).toInt]) (r := []) rfl rfl rfl rfl (by decide) gx rfl rfl rx (fun _ e => by cases e; exact oX) ?_
  show wp (ivS L xs) L RpK csK 413 255 444 [lr 0, lr 64, lr 307, li i] [vi z] (h1, k + k1, n0 + n1) Q
  refine w_pop rfl rfl ?_
  refine w_aload_n rfl rfl ?_
  refine w_aload_n rfl rfl ?_
  refine w_iload_n rfl rfl ?_
  refine w_iconst rfl rfl ?_
  refine w_iadd rfl r1 ?_
  refine w_scr rfl b1 ?_
  refine w_aload_n rfl rfl ?_
  refine w_iload_n rfl rfl ?_
  refine w_iconst rfl rfl ?_
  refine w_iadd rfl r2 ?_
  refine w_scr rfl b2 ?_
  refine w_bool rfl rfl rfl rfl ?_
  refine w_aload_n rfl rfl ?_
  refine w_iload_n rfl rfl ?_
  refine w_iconst rfl rfl ?_
  refine w_iadd rfl r3 ?_
  refine w_scr rfl b3 ?_
  refine law_virt (p := 307) (as := [vi (xs (i + 1).toNat).toInt, vi (b01 (xs (i + 2).toNat).toInt), vi (xs (i + 3).toNat).toInt]) (r := []) rfl rfl rfl rfl (by decide) gm rfl rfl rm (fun _ e => by cases e; exact oM) ?_
  show wp (ivS L xs) L RpK csK 413 255 472 [lr 0, lr 64, lr 307, li i] [vi z] (h2, k + k1 + 0, n0 + n1 + 0) Q
  refine w_pop rfl rfl ?_
  refine w_goto rfl ?_
  exact hK _ hI'
/-- hole -/
theorem lc_8 (hI : LI m S) (hm : (m : Int) < 512) (hi : 0 ≤ i) (hL : i + 3 < L) (h20 : L ≤ 2048) (hK : ∀ S, LI (m + 1) S → wp (ivS L xs) L RpK csK 413 255 1192 [lr 0, lr 64, lr 307, li i] [] S Q) : wp (ivS L xs) L RpK csK 413 255 476 [lr 0, lr 64, lr 307, li i] [] S Q := by
  obtain ⟨H, k, n0⟩ := S
  have b1 : 0 ≤ i + 1 ∧ i + 1 < (L : Int) := by omega
  have r1 : inR (i + 1) := by unfold inR; omega
  have b2 : 0 ≤ i + 2 ∧ i + 2 < (L : Int) := by omega
  have r2 : inR (i + 2) := by unfold inR; omega
  obtain ⟨⟨fx, gx⟩, v, v', f, k1, n1, h1, ⟨z, rfl, rfl⟩, ⟨oM, oX⟩, rx, ⟨fm, gm⟩, f2, h2, rm, hI'⟩ := two_i (iv := ivS L xs) (L := L) (M := 98) (X := 10) (asM := [vr 307, vi (xs (i + 1).toNat).toInt, vi (b01 (xs (i + 2).toNat).toInt)]) (asX := [vr 64, vi (xs (i + 1).toNat).toInt, vi (b01 (xs (i + 2).toNat).toInt)]) hI (fun s c hp h0 => ps_hole hp (by decide) (by decide)) (okS_c trivial (okS_ci (i32_ok _).2 (okS_ci (b01_in _) okS_n))) (okS_c trivial (okS_ci (i32_ok _).2 (okS_ci (b01_in _) okS_n)))
  refine w_aload_n rfl rfl ?_
  refine w_aload_n rfl rfl ?_
  refine w_iload_n rfl rfl ?_
  refine w_iconst rfl rfl ?_
  refine w_iadd rfl r1 ?_
  refine w_scr rfl b1 ?_
  refine w_aload_n rfl rfl ?_
  refine w_iload_n rfl rfl ?_
  refine w_iconst rfl rfl ?_
  refine w_iadd rfl r2 ?_
  refine w_scr rfl b2 ?_
  refine w_bool rfl rfl rfl rfl ?_
  refine law_virt (p := 64) (as := [vi (xs (i + 1).toNat).toInt, vi (b01 (xs (i + 2).toNat).toInt)]) (r := []) rfl rfl rfl rfl (by decide) gx rfl rfl rx (fun _ e => by cases e; exact oX) ?_
  show wp (ivS L xs) L RpK csK 413 255 498 [lr 0, lr 64, lr 307, li i] [vi z] (h1, k + k1, n0 + n1) Q
  refine w_pop rfl rfl ?_
  refine w_aload_n rfl rfl ?_
  refine w_aload_n rfl rfl ?_
  refine w_iload_n rfl rfl ?_
  refine w_iconst rfl rfl ?_
  refine w_iadd rfl r1 ?_
  refine w_scr rfl b1 ?_
  refine w_aload_n rfl rfl ?_
  refine w_iload_n rfl rfl ?_
  refine w_iconst rfl rfl ?_
  refine w_iadd rfl r2 ?_
  refine w_scr rfl b2 ?_
  refine w_bool rfl rfl rfl rfl ?_
  refine law_virt (p := 307) (as := [vi (xs (i + 1).toNat).toInt, vi (b01 (xs (i + 2).toNat).toInt)]) (r := []) rfl rfl rfl rfl (by decide) gm rfl rfl rm (fun _ e => by cases e; exact oM) ?_
  show wp (ivS L xs) L RpK csK 413 255 521 [lr 0, lr 64, lr 307, li i] [vi z] (h2, k + k1 + 0, n0 + n1 + 0) Q
  refine w_pop rfl rfl ?_
  refine w_goto rfl ?_
  exact hK _ hI'
/-- go -/
theorem lc_9 (hI : LI m S) (hm : (m : Int) < 512) (hi : 0 ≤ i) (hL : i + 3 < L) (h20 : L ≤ 2048) (hK : ∀ S, LI (m + 1) S → wp (ivS L xs) L RpK csK 413 255 1192 [lr 0, lr 64, lr 307, li i] [] S Q) : wp (ivS L xs) L RpK csK 413 255 525 [lr 0, lr 64, lr 307, li i] [] S Q := by
  obtain ⟨H, k, n0⟩ := S
  have b1 : 0 ≤ i + 1 ∧ i + 1 < (L : Int) := by omega
  have r1 : inR (i + 1) := by unfold inR; omega
  obtain ⟨⟨fx, gx⟩, v, v', f, k1, n1, h1, ⟨z, rfl, rfl⟩, ⟨oM, oX⟩, rx, ⟨fm, gm⟩, f2, h2, rm, hI'⟩ := two_i (iv := ivS L xs) (L := L) (M := 105) (X := 11) (asM := [vr 307, vi (xs (i + 1).toNat).toInt]) (asX := [vr 64, vi (xs (i + 1).toNat).toInt]) hI (fun s c hp h0 => ps_go hp (by decide) (by decide)) (okS_c trivial (okS_ci (i32_ok _).2 okS_n)) (okS_c trivial (okS_ci (i32_ok _).2 okS_n))
  refine w_aload_n rfl rfl ?_
  refine w_aload_n rfl rfl ?_
  refine w_iload_n rfl rfl ?_
  refine w_iconst rfl rfl ?_
  refine w_iadd rfl r1 ?_
  refine w_scr rfl b1 ?_
  refine law_virt (p := 64) (as := [vi (xs (i + 1).toNat).toInt]) (r := []) rfl rfl rfl rfl (by decide) gx rfl rfl rx (fun _ e => by cases e; exact oX) ?_
  show wp (ivS L xs) L RpK csK 413 255 534 [lr 0, lr 64, lr 307, li i] [vi z] (h1, k + k1, n0 + n1) Q
  refine w_pop rfl rfl ?_
  refine w_aload_n rfl rfl ?_
  refine w_aload_n rfl rfl ?_
  refine w_iload_n rfl rfl ?_
  refine w_iconst rfl rfl ?_
  refine w_iadd rfl r1 ?_
  refine w_scr rfl b1 ?_
  refine law_virt (p := 307) (as := [vi (xs (i + 1).toNat).toInt]) (r := []) rfl rfl rfl rfl (by decide) gm rfl rfl rm (fun _ e => by cases e; exact oM) ?_
  show wp (ivS L xs) L RpK csK 413 255 544 [lr 0, lr 64, lr 307, li i] [vi z] (h2, k + k1 + 0, n0 + n1 + 0) Q
  refine w_pop rfl rfl ?_
  refine w_goto rfl ?_
  exact hK _ hI'
/-- seek -/
theorem lc_10 (hI : LI m S) (hm : (m : Int) < 512) (hi : 0 ≤ i) (hL : i + 3 < L) (h20 : L ≤ 2048) (hK : ∀ S, LI (m + 1) S → wp (ivS L xs) L RpK csK 413 255 1192 [lr 0, lr 64, lr 307, li i] [] S Q) : wp (ivS L xs) L RpK csK 413 255 548 [lr 0, lr 64, lr 307, li i] [] S Q := by
  obtain ⟨H, k, n0⟩ := S
  have b1 : 0 ≤ i + 1 ∧ i + 1 < (L : Int) := by omega
  have r1 : inR (i + 1) := by unfold inR; omega
  obtain ⟨⟨fx, gx⟩, v, v', f, k1, n1, h1, ⟨z, rfl, rfl⟩, ⟨oM, oX⟩, rx, ⟨fm, gm⟩, f2, h2, rm, hI'⟩ := two_i (iv := ivS L xs) (L := L) (M := 106) (X := 12) (asM := [vr 307, vi (xs (i + 1).toNat).toInt]) (asX := [vr 64, vi (xs (i + 1).toNat).toInt]) hI (fun s c hp h0 => ps_seek hp (by decide) (by decide)) (okS_c trivial (okS_ci (i32_ok _).2 okS_n)) (okS_c trivial (okS_ci (i32_ok _).2 okS_n))
  refine w_aload_n rfl rfl ?_
  refine w_aload_n rfl rfl ?_
  refine w_iload_n rfl rfl ?_
  refine w_iconst rfl rfl ?_
  refine w_iadd rfl r1 ?_
  refine w_scr rfl b1 ?_
  refine law_virt (p := 64) (as := [vi (xs (i + 1).toNat).toInt]) (r := []) rfl rfl rfl rfl (by decide) gx rfl rfl rx (fun _ e => by cases e; exact oX) ?_
  show wp (ivS L xs) L RpK csK 413 255 557 [lr 0, lr 64, lr 307, li i] [vi z] (h1, k + k1, n0 + n1) Q
  refine w_pop rfl rfl ?_
  refine w_aload_n rfl rfl ?_
  refine w_aload_n rfl rfl ?_
  refine w_iload_n rfl rfl ?_
  refine w_iconst rfl rfl ?_
  refine w_iadd rfl r1 ?_
  refine w_scr rfl b1 ?_
  refine law_virt (p := 307) (as := [vi (xs (i + 1).toNat).toInt]) (r := []) rfl rfl rfl rfl (by decide) gm rfl rfl rm (fun _ e => by cases e; exact oM) ?_
  show wp (ivS L xs) L RpK csK 413 255 567 [lr 0, lr 64, lr 307, li i] [vi z] (h2, k + k1 + 0, n0 + n1 + 0) Q
  refine w_pop rfl rfl ?_
  refine w_goto rfl ?_
  exact hK _ hI'
/-- put -/
theorem lc_11 (hI : LI m S) (hm : (m : Int) < 512) (hi : 0 ≤ i) (hL : i + 3 < L) (h20 : L ≤ 2048) (hK : ∀ S, LI (m + 1) S → wp (ivS L xs) L RpK csK 413 255 1192 [lr 0, lr 64, lr 307, li i] [] S Q) : wp (ivS L xs) L RpK csK 413 255 571 [lr 0, lr 64, lr 307, li i] [] S Q := by
  obtain ⟨H, k, n0⟩ := S
  have b1 : 0 ≤ i + 1 ∧ i + 1 < (L : Int) := by omega
  have r1 : inR (i + 1) := by unfold inR; omega
  have b2 : 0 ≤ i + 2 ∧ i + 2 < (L : Int) := by omega
  have r2 : inR (i + 2) := by unfold inR; omega
  have b3 : 0 ≤ i + 3 ∧ i + 3 < (L : Int) := by omega
  have r3 : inR (i + 3) := by unfold inR; omega
  obtain ⟨⟨fx, gx⟩, v, v', f, k1, n1, h1, ⟨z, rfl, rfl⟩, ⟨oM, oX⟩, rx, ⟨fm, gm⟩, f2, h2, rm, hI'⟩ := two_i (iv := ivS L xs) (L := L) (M := 107) (X := 13) (asM := [vr 307, vi (xs (i + 1).toNat).toInt, vi (xs (i + 2).toNat).toInt, vi (xs (i + 3).toNat).toInt]) (asX := [vr 64, vi (xs (i + 1).toNat).toInt, vi (xs (i + 2).toNat).toInt, vi (xs (i + 3).toNat).toInt]) hI (fun s c hp h0 => ps_put hp (by decide) (by decide)) (okS_c trivial (okS_ci (i32_ok _).2 (okS_ci (i32_ok _).2 (okS_ci (i32_ok _).2 okS_n)))) (okS_c trivial (okS_ci (i32_ok _).2 (okS_ci (i32_ok _).2 (okS_ci (i32_ok _).2 okS_n))))
  refine w_aload_n rfl rfl ?_
  refine w_aload_n rfl rfl ?_
  refine w_iload_n rfl rfl ?_
  refine w_iconst rfl rfl ?_
  refine w_iadd rfl r1 ?_
  refine w_scr rfl b1 ?_
  refine w_aload_n rfl rfl ?_
  refine w_iload_n rfl rfl ?_
  refine w_iconst rfl rfl ?_
  refine w_iadd rfl r2 ?_
  refine w_scr rfl b2 ?_
  refine w_aload_n rfl rfl ?_
  refine w_iload_n rfl rfl ?_
  refine w_iconst rfl rfl ?_
  refine w_iadd rfl r3 ?_
  refine w_scr rfl b3 ?_
  refine law_virt (p := 64) (as := [vi (xs (i + 1).toNat).toInt, vi (xs (i + 2).toNat).toInt, vi (xs (i + 3).toNat).toInt]) (r := []) rfl rfl rfl rfl (by decide) gx rfl rfl rx (fun _ e => by cases e; exact oX) ?_
  show wp (ivS L xs) L RpK csK 413 255 590 [lr 0, lr 64, lr 307, li i] [vi z] (h1, k + k1, n0 + n1) Q
  refine w_pop rfl rfl ?_
  refine w_aload_n rfl rfl ?_
  refine w_aload_n rfl rfl ?_
  refine w_iload_n rfl rfl ?_
  refine w_iconst rfl rfl ?_
  refine w_iadd rfl r1 ?_
  refine w_scr rfl b1 ?_
  refine w_aload_n rfl rfl ?_
  refine w_iload_n rfl rfl ?_
  refine w_iconst rfl rfl ?_
  refine w_iadd rfl r2 ?_
  refine w_scr rfl b2 ?_
  refine w_aload_n rfl rfl ?_
  refine w_iload_n rfl rfl ?_
  refine w_iconst rfl rfl ?_
  refine w_iadd rfl r3 ?_
  refine w_scr rfl b3 ?_
  refine law_virt (p := 307) (as := [vi (xs (i + 1).toNat).toInt, vi (xs (i + 2).toNat).toInt, vi (xs (i + 3).toNat).toInt]) (r := []) rfl rfl rfl rfl (by decide) gm rfl rfl rm (fun _ e => by cases e; exact oM) ?_
  show wp (ivS L xs) L RpK csK 413 255 610 [lr 0, lr 64, lr 307, li i] [vi z] (h2, k + k1 + 0, n0 + n1 + 0) Q
  refine w_pop rfl rfl ?_
  refine w_goto rfl ?_
  exact hK _ hI'
/-- take -/
theorem lc_12 (hI : LI m S) (hm : (m : Int) < 512) (hi : 0 ≤ i) (hL : i + 3 < L) (h20 : L ≤ 2048) (hK : ∀ S, LI (m + 1) S → wp (ivS L xs) L RpK csK 413 255 1192 [lr 0, lr 64, lr 307, li i] [] S Q) : wp (ivS L xs) L RpK csK 413 255 614 [lr 0, lr 64, lr 307, li i] [] S Q := by
  obtain ⟨H, k, n0⟩ := S
  obtain ⟨⟨fx, gx⟩, v, v', f, k1, n1, h1, ⟨z, rfl, rfl⟩, ⟨oM, oX⟩, rx, ⟨fm, gm⟩, f2, h2, rm, hI'⟩ := two_i (iv := ivS L xs) (L := L) (M := 108) (X := 14) (asM := [vr 307]) (asX := [vr 64]) hI (fun s c hp h0 => ps_take hp (by decide) (by decide)) (okS_c trivial okS_n) (okS_c trivial okS_n)
  refine w_aload_n rfl rfl ?_
  refine law_virt (p := 64) (as := []) (r := []) rfl rfl rfl rfl (by decide) gx rfl rfl rx (fun _ e => by cases e; exact oX) ?_
  show wp (ivS L xs) L RpK csK 413 255 618 [lr 0, lr 64, lr 307, li i] [vi z] (h1, k + k1, n0 + n1) Q
  refine w_pop rfl rfl ?_
  refine w_aload_n rfl rfl ?_
  refine law_virt (p := 307) (as := []) (r := []) rfl rfl rfl rfl (by decide) gm rfl rfl rm (fun _ e => by cases e; exact oM) ?_
  show wp (ivS L xs) L RpK csK 413 255 623 [lr 0, lr 64, lr 307, li i] [vi z] (h2, k + k1 + 0, n0 + n1 + 0) Q
  refine w_pop rfl rfl ?_
  refine w_goto rfl ?_
  exact hK _ hI'
/-- unwrap -/
theorem lc_13 (hI : LI m S) (hm : (m : Int) < 512) (hi : 0 ≤ i) (hL : i + 3 < L) (h20 : L ≤ 2048) (hK : ∀ S, LI (m + 1) S → wp (ivS L xs) L RpK csK 413 255 1192 [lr 0, lr 64, lr 307, li i] [] S Q) : wp (ivS L xs) L RpK csK 413 255 627 [lr 0, lr 64, lr 307, li i] [] S Q := by
  obtain ⟨H, k, n0⟩ := S
  have b1 : 0 ≤ i + 1 ∧ i + 1 < (L : Int) := by omega
  have r1 : inR (i + 1) := by unfold inR; omega
  obtain ⟨⟨fx, gx⟩, v, v', f, k1, n1, h1, ⟨z, rfl, rfl⟩, ⟨oM, oX⟩, rx, ⟨fm, gm⟩, f2, h2, rm, hI'⟩ := two_i (iv := ivS L xs) (L := L) (M := 109) (X := 15) (asM := [vr 307, vi (xs (i + 1).toNat).toInt]) (asX := [vr 64, vi (xs (i + 1).toNat).toInt]) hI (fun s c hp h0 => ps_unwrap hp (by omega) (by decide) (by decide)) (okS_c trivial (okS_ci (i32_ok _).2 okS_n)) (okS_c trivial (okS_ci (i32_ok _).2 okS_n))
  refine w_aload_n rfl rfl ?_
  refine w_aload_n rfl rfl ?_
  refine w_iload_n rfl rfl ?_
  refine w_iconst rfl rfl ?_
  refine w_iadd rfl r1 ?_
  refine w_scr rfl b1 ?_
  refine law_virt (p := 64) (as := [vi (xs (i + 1).toNat).toInt]) (r := []) rfl rfl rfl rfl (by decide) gx rfl rfl rx (fun _ e => by cases e; exact oX) ?_
  show wp (ivS L xs) L RpK csK 413 255 636 [lr 0, lr 64, lr 307, li i] [vi z] (h1, k + k1, n0 + n1) Q
  refine w_pop rfl rfl ?_
  refine w_aload_n rfl rfl ?_
  refine w_aload_n rfl rfl ?_
  refine w_iload_n rfl rfl ?_
  refine w_iconst rfl rfl ?_
  refine w_iadd rfl r1 ?_
  refine w_scr rfl b1 ?_
  refine law_virt (p := 307) (as := [vi (xs (i + 1).toNat).toInt]) (r := []) rfl rfl rfl rfl (by decide) gm rfl rfl rm (fun _ e => by cases e; exact oM) ?_
  show wp (ivS L xs) L RpK csK 413 255 646 [lr 0, lr 64, lr 307, li i] [vi z] (h2, k + k1 + 0, n0 + n1 + 0) Q
  refine w_pop rfl rfl ?_
  refine w_goto rfl ?_
  exact hK _ hI'
/-- write -/
theorem lc_14 (hI : LI m S) (hm : (m : Int) < 512) (hi : 0 ≤ i) (hL : i + 3 < L) (h20 : L ≤ 2048) (hK : ∀ S, LI (m + 1) S → wp (ivS L xs) L RpK csK 413 255 1192 [lr 0, lr 64, lr 307, li i] [] S Q) : wp (ivS L xs) L RpK csK 413 255 650 [lr 0, lr 64, lr 307, li i] [] S Q := by
  obtain ⟨H, k, n0⟩ := S
  have b1 : 0 ≤ i + 1 ∧ i + 1 < (L : Int) := by omega
  have r1 : inR (i + 1) := by unfold inR; omega
  obtain ⟨⟨fx, gx⟩, v, v', f, k1, n1, h1, ⟨z, rfl, rfl⟩, ⟨oM, oX⟩, rx, ⟨fm, gm⟩, f2, h2, rm, hI'⟩ := two_i (iv := ivS L xs) (L := L) (M := 110) (X := 16) (asM := [vr 307, vi (xs (i + 1).toNat).toInt]) (asX := [vr 64, vi (xs (i + 1).toNat).toInt]) hI (fun s c hp h0 => ps_write hp (by decide) (by decide)) (okS_c trivial (okS_ci (i32_ok _).2 okS_n)) (okS_c trivial (okS_ci (i32_ok _).2 okS_n))
  refine w_aload_n rfl rfl ?_
  refine w_aload_n rfl rfl ?_
  refine w_iload_n rfl rfl ?_
  refine w_iconst rfl rfl ?_
  refine w_iadd rfl r1 ?_
  refine w_scr rfl b1 ?_
  refine law_virt (p := 64) (as := [vi (xs (i + 1).toNat).toInt]) (r := []) rfl rfl rfl rfl (by decide) gx rfl rfl rx (fun _ e => by cases e; exact oX) ?_
  show wp (ivS L xs) L RpK csK 413 255 659 [lr 0, lr 64, lr 307, li i] [vi z] (h1, k + k1, n0 + n1) Q
  refine w_pop rfl rfl ?_
  refine w_aload_n rfl rfl ?_
  refine w_aload_n rfl rfl ?_
  refine w_iload_n rfl rfl ?_
  refine w_iconst rfl rfl ?_
  refine w_iadd rfl r1 ?_
  refine w_scr rfl b1 ?_
  refine law_virt (p := 307) (as := [vi (xs (i + 1).toNat).toInt]) (r := []) rfl rfl rfl rfl (by decide) gm rfl rfl rm (fun _ e => by cases e; exact oM) ?_
  show wp (ivS L xs) L RpK csK 413 255 669 [lr 0, lr 64, lr 307, li i] [vi z] (h2, k + k1 + 0, n0 + n1 + 0) Q
  refine w_pop rfl rfl ?_
  refine w_goto rfl ?_
  exact hK _ hI'
/-- rename -/
theorem lc_15 (hI : LI m S) (hm : (m : Int) < 512) (hi : 0 ≤ i) (hL : i + 3 < L) (h20 : L ≤ 2048) (hK : ∀ S, LI (m + 1) S → wp (ivS L xs) L RpK csK 413 255 1192 [lr 0, lr 64, lr 307, li i] [] S Q) : wp (ivS L xs) L RpK csK 413 255 673 [lr 0, lr 64, lr 307, li i] [] S Q := by
  obtain ⟨H, k, n0⟩ := S
  have b1 : 0 ≤ i + 1 ∧ i + 1 < (L : Int) := by omega
  have r1 : inR (i + 1) := by unfold inR; omega
  obtain ⟨⟨fx, gx⟩, v, v', f, k1, n1, h1, ⟨z, rfl, rfl⟩, ⟨oM, oX⟩, rx, ⟨fm, gm⟩, f2, h2, rm, hI'⟩ := two_i (iv := ivS L xs) (L := L) (M := 111) (X := 17) (asM := [vr 307, vi (xs (i + 1).toNat).toInt]) (asX := [vr 64, vi (xs (i + 1).toNat).toInt]) hI (fun s c hp h0 => ps_rename hp (by decide) (by decide)) (okS_c trivial (okS_ci (i32_ok _).2 okS_n)) (okS_c trivial (okS_ci (i32_ok _).2 okS_n))
  refine w_aload_n rfl rfl ?_
  refine w_aload_n rfl rfl ?_
  refine w_iload_n rfl rfl ?_
  refine w_iconst rfl rfl ?_
  refine w_iadd rfl r1 ?_
  refine w_scr rfl b1 ?_
  refine law_virt (p := 64) (as := [vi (xs (i + 1).toNat).toInt]) (r := []) rfl rfl rfl rfl (by decide) gx rfl rfl rx (fun _ e => by cases e; exact oX) ?_
  show wp (ivS L xs) L RpK csK 413 255 682 [lr 0, lr 64, lr 307, li i] [vi z] (h1, k + k1, n0 + n1) Q
  refine w_pop rfl rfl ?_
  refine w_aload_n rfl rfl ?_
  refine w_aload_n rfl rfl ?_
  refine w_iload_n rfl rfl ?_
  refine w_iconst rfl rfl ?_
  refine w_iadd rfl r1 ?_
  refine w_scr rfl b1 ?_
  refine law_virt (p := 307) (as := [vi (xs (i + 1).toNat).toInt]) (r := []) rfl rfl rfl rfl (by decide) gm rfl rfl rm (fun _ e => by cases e; exact oM) ?_
  show wp (ivS L xs) L RpK csK 413 255 692 [lr 0, lr 64, lr 307, li i] [vi z] (h2, k + k1 + 0, n0 + n1 + 0) Q
  refine w_pop rfl rfl ?_
  refine w_goto rfl ?_
  exact hK _ hI'
/-- move -/
theorem lc_16 (hI : LI m S) (hm : (m : Int) < 512) (hi : 0 ≤ i) (hL : i + 3 < L) (h20 : L ≤ 2048) (hK : ∀ S, LI (m + 1) S → wp (ivS L xs) L RpK csK 413 255 1192 [lr 0, lr 64, lr 307, li i] [] S Q) : wp (ivS L xs) L RpK csK 413 255 696 [lr 0, lr 64, lr 307, li i] [] S Q := by
  obtain ⟨H, k, n0⟩ := S
  have b1 : 0 ≤ i + 1 ∧ i + 1 < (L : Int) := by omega
  have r1 : inR (i + 1) := by unfold inR; omega
  obtain ⟨⟨fx, gx⟩, v, v', f, k1, n1, h1, ⟨z, rfl, rfl⟩, ⟨oM, oX⟩, rx, ⟨fm, gm⟩, f2, h2, rm, hI'⟩ := two_i (iv := ivS L xs) (L := L) (M := 112) (X := 18) (asM := [vr 307, vi (xs (i + 1).toNat).toInt]) (asX := [vr 64, vi (xs (i + 1).toNat).toInt]) hI (fun s c hp h0 => ps_move hp (by decide) (by decide)) (okS_c trivial (okS_ci (i32_ok _).2 okS_n)) (okS_c trivial (okS_ci (i32_ok _).2 okS_n))
  refine w_aload_n rfl rfl ?_
  refine w_aload_n rfl rfl ?_
  refine w_iload_n rfl rfl ?_
  refine w_iconst rfl rfl ?_
  refine w_iadd rfl r1 ?_
  refine w_scr rfl b1 ?_
  refine law_virt (p := 64) (as := [vi (xs (i + 1).toNat).toInt]) (r := []) rfl rfl rfl rfl (by decide) gx rfl rfl rx (fun _ e => by cases e; exact oX) ?_
  show wp (ivS L xs) L RpK csK 413 255 705 [lr 0, lr 64, lr 307, li i] [vi z] (h1, k + k1, n0 + n1) Q
  refine w_pop rfl rfl ?_
  refine w_aload_n rfl rfl ?_
  refine w_aload_n rfl rfl ?_
  refine w_iload_n rfl rfl ?_
  refine w_iconst rfl rfl ?_
  refine w_iadd rfl r1 ?_
  refine w_scr rfl b1 ?_
  refine law_virt (p := 307) (as := [vi (xs (i + 1).toNat).toInt]) (r := []) rfl rfl rfl rfl (by decide) gm rfl rfl rm (fun _ e => by cases e; exact oM) ?_
  show wp (ivS L xs) L RpK csK 413 255 715 [lr 0, lr 64, lr 307, li i] [vi z] (h2, k + k1 + 0, n0 + n1 + 0) Q
  refine w_pop rfl rfl ?_
  refine w_goto rfl ?_
  exact hK _ hI'
/-- shelve -/
theorem lc_17 (hI : LI m S) (hm : (m : Int) < 512) (hi : 0 ≤ i) (hL : i + 3 < L) (h20 : L ≤ 2048) (hK : ∀ S, LI (m + 1) S → wp (ivS L xs) L RpK csK 413 255 1192 [lr 0, lr 64, lr 307, li i] [] S Q) : wp (ivS L xs) L RpK csK 413 255 719 [lr 0, lr 64, lr 307, li i] [] S Q := by
  obtain ⟨H, k, n0⟩ := S
  have b1 : 0 ≤ i + 1 ∧ i + 1 < (L : Int) := by omega
  have r1 : inR (i + 1) := by unfold inR; omega
  obtain ⟨⟨fx, gx⟩, v, v', f, k1, n1, h1, ⟨z, rfl, rfl⟩, ⟨oM, oX⟩, rx, ⟨fm, gm⟩, f2, h2, rm, hI'⟩ := two_i (iv := ivS L xs) (L := L) (M := 113) (X := 19) (asM := [vr 307, vi (xs (i + 1).toNat).toInt]) (asX := [vr 64, vi (xs (i + 1).toNat).toInt]) hI (fun s c hp h0 => ps_shelve hp (by decide) (by decide)) (okS_c trivial (okS_ci (i32_ok _).2 okS_n)) (okS_c trivial (okS_ci (i32_ok _).2 okS_n))
  refine w_aload_n rfl rfl ?_
  refine w_aload_n rfl rfl ?_
  refine w_iload_n rfl rfl ?_
  refine w_iconst rfl rfl ?_
  refine w_iadd rfl r1 ?_
  refine w_scr rfl b1 ?_
  refine law_virt (p := 64) (as := [vi (xs (i + 1).toNat).toInt]) (r := []) rfl rfl rfl rfl (by decide) gx rfl rfl rx (fun _ e => by cases e; exact oX) ?_
  show wp (ivS L xs) L RpK csK 413 255 728 [lr 0, lr 64, lr 307, li i] [vi z] (h1, k + k1, n0 + n1) Q
  refine w_pop rfl rfl ?_
  refine w_aload_n rfl rfl ?_
  refine w_aload_n rfl rfl ?_
  refine w_iload_n rfl rfl ?_
  refine w_iconst rfl rfl ?_
  refine w_iadd rfl r1 ?_
  refine w_scr rfl b1 ?_
  refine law_virt (p := 307) (as := [vi (xs (i + 1).toNat).toInt]) (r := []) rfl rfl rfl rfl (by decide) gm rfl rfl rm (fun _ e => by cases e; exact oM) ?_
  show wp (ivS L xs) L RpK csK 413 255 738 [lr 0, lr 64, lr 307, li i] [vi z] (h2, k + k1 + 0, n0 + n1 + 0) Q
  refine w_pop rfl rfl ?_
  refine w_goto rfl ?_
  exact hK _ hI'
/-- fill -/
theorem lc_18 (hI : LI m S) (hm : (m : Int) < 512) (hi : 0 ≤ i) (hL : i + 3 < L) (h20 : L ≤ 2048) (hK : ∀ S, LI (m + 1) S → wp (ivS L xs) L RpK csK 413 255 1192 [lr 0, lr 64, lr 307, li i] [] S Q) : wp (ivS L xs) L RpK csK 413 255 742 [lr 0, lr 64, lr 307, li i] [] S Q := by
  obtain ⟨H, k, n0⟩ := S
  have b1 : 0 ≤ i + 1 ∧ i + 1 < (L : Int) := by omega
  have r1 : inR (i + 1) := by unfold inR; omega
  obtain ⟨⟨fx, gx⟩, v, v', f, k1, n1, h1, ⟨z, rfl, rfl⟩, ⟨oM, oX⟩, rx, ⟨fm, gm⟩, f2, h2, rm, hI'⟩ := two_i (iv := ivS L xs) (L := L) (M := 115) (X := 20) (asM := [vr 307, vi (xs (i + 1).toNat).toInt]) (asX := [vr 64, vi (xs (i + 1).toNat).toInt]) hI (fun s c hp h0 => ps_fill hp (by omega) (by decide) (by decide)) (okS_c trivial (okS_ci (i32_ok _).2 okS_n)) (okS_c trivial (okS_ci (i32_ok _).2 okS_n))
  refine w_aload_n rfl rfl ?_
  refine w_aload_n rfl rfl ?_
  refine w_iload_n rfl rfl ?_
  refine w_iconst rfl rfl ?_
  refine w_iadd rfl r1 ?_
  refine w_scr rfl b1 ?_
  refine law_virt (p := 64) (as := [vi (xs (i + 1).toNat).toInt]) (r := []) rfl rfl rfl rfl (by decide) gx rfl rfl rx (fun _ e => by cases e; exact oX) ?_
  show wp (ivS L xs) L RpK csK 413 255 751 [lr 0, lr 64, lr 307, li i] [vi z] (h1, k + k1, n0 + n1) Q
  refine w_pop rfl rfl ?_
  refine w_aload_n rfl rfl ?_
  refine w_aload_n rfl rfl ?_
  refine w_iload_n rfl rfl ?_
  refine w_iconst rfl rfl ?_
  refine w_iadd rfl r1 ?_
  refine w_scr rfl b1 ?_
  refine law_virt (p := 307) (as := [vi (xs (i + 1).toNat).toInt]) (r := []) rfl rfl rfl rfl (by decide) gm rfl rfl rm (fun _ e => by cases e; exact oM) ?_
  show wp (ivS L xs) L RpK csK 413 255 761 [lr 0, lr 64, lr 307, li i] [vi z] (h2, k + k1 + 0, n0 + n1 + 0) Q
  refine w_pop rfl rfl ?_
  refine w_goto rfl ?_
  exact hK _ hI'
/-- undo -/
theorem lc_19 (hI : LI m S) (hm : (m : Int) < 512) (hi : 0 ≤ i) (hL : i + 3 < L) (h20 : L ≤ 2048) (hK : ∀ S, LI (m + 1) S → wp (ivS L xs) L RpK csK 413 255 1192 [lr 0, lr 64, lr 307, li i] [] S Q) : wp (ivS L xs) L RpK csK 413 255 765 [lr 0, lr 64, lr 307, li i] [] S Q := by
  obtain ⟨H, k, n0⟩ := S
  obtain ⟨⟨fx, gx⟩, v, v', f, k1, n1, h1, ⟨z, rfl, rfl⟩, ⟨oM, oX⟩, rx, ⟨fm, gm⟩, f2, h2, rm, hI'⟩ := two_i (iv := ivS L xs) (L := L) (M := 101) (X := 21) (asM := [vr 307]) (asX := [vr 64]) hI (fun s c hp h0 => ps_undo (d := 411) hp (by decide) (by decide)) (okS_c trivial okS_n) (okS_c trivial okS_n)
  refine w_aload_n rfl rfl ?_
  refine law_virt (p := 64) (as := []) (r := []) rfl rfl rfl rfl (by decide) gx rfl rfl rx (fun _ e => by cases e; exact oX) ?_
  show wp (ivS L xs) L RpK csK 413 255 769 [lr 0, lr 64, lr 307, li i] [vi z] (h1, k + k1, n0 + n1) Q
  refine w_pop rfl rfl ?_
  refine w_aload_n rfl rfl ?_
  refine law_virt (p := 307) (as := []) (r := []) rfl rfl rfl rfl (by decide) gm rfl rfl rm (fun _ e => by cases e; exact oM) ?_
  show wp (ivS L xs) L RpK csK 413 255 774 [lr 0, lr 64, lr 307, li i] [vi z] (h2, k + k1 + 0, n0 + n1 + 0) Q
  refine w_pop rfl rfl ?_
  refine w_goto rfl ?_
  exact hK _ hI'
/-- offers -/
theorem lc_20 (hI : LI m S) (hm : (m : Int) < 512) (hi : 0 ≤ i) (hL : i + 3 < L) (h20 : L ≤ 2048) (hK : ∀ S, LI (m + 1) S → wp (ivS L xs) L RpK csK 413 255 1192 [lr 0, lr 64, lr 307, li i] [] S Q) : wp (ivS L xs) L RpK csK 413 255 778 [lr 0, lr 64, lr 307, li i] [] S Q := by
  obtain ⟨H, k, n0⟩ := S
  obtain ⟨⟨fx, gx⟩, v, v', f, k1, n1, h1, ⟨z, z', rfl, rfl⟩, ⟨oM, oX⟩, rx, ⟨fm, gm⟩, f2, h2, rm, hI'⟩ := two_a (iv := ivS L xs) (L := L) (M := 119) (X := 22) (asM := [vr 307]) (asX := [vr 64]) hI (fun s c hp h0 => ps_offers hp (by decide) (by decide)) (okS_c trivial okS_n) (okS_c trivial okS_n)
  refine w_aload_n rfl rfl ?_
  refine law_virt (p := 64) (as := []) (r := []) rfl rfl rfl rfl (by decide) gx rfl rfl rx (fun _ e => by cases e; exact oX) ?_
  show wp (ivS L xs) L RpK csK 413 255 782 [lr 0, lr 64, lr 307, li i] [vi z'] (h1, k + k1, n0 + n1) Q
  refine w_pop rfl rfl ?_
  refine w_aload_n rfl rfl ?_
  refine law_virt (p := 307) (as := []) (r := []) rfl rfl rfl rfl (by decide) gm rfl rfl rm (fun _ e => by cases e; exact oM) ?_
  show wp (ivS L xs) L RpK csK 413 255 787 [lr 0, lr 64, lr 307, li i] [vi z] (h2, k + k1 + 0, n0 + n1 + 0) Q
  refine w_pop rfl rfl ?_
  refine w_goto rfl ?_
  exact hK _ hI'
/-- offer -/
theorem lc_21 (hI : LI m S) (hm : (m : Int) < 512) (hi : 0 ≤ i) (hL : i + 3 < L) (h20 : L ≤ 2048) (hK : ∀ S, LI (m + 1) S → wp (ivS L xs) L RpK csK 413 255 1192 [lr 0, lr 64, lr 307, li i] [] S Q) : wp (ivS L xs) L RpK csK 413 255 791 [lr 0, lr 64, lr 307, li i] [] S Q := by
  obtain ⟨H, k, n0⟩ := S
  have b1 : 0 ≤ i + 1 ∧ i + 1 < (L : Int) := by omega
  have r1 : inR (i + 1) := by unfold inR; omega
  have b2 : 0 ≤ i + 2 ∧ i + 2 < (L : Int) := by omega
  have r2 : inR (i + 2) := by unfold inR; omega
  obtain ⟨⟨fx, gx⟩, v, v', f, k1, n1, h1, ⟨z, z', rfl, rfl⟩, ⟨oM, oX⟩, rx, ⟨fm, gm⟩, f2, h2, rm, hI'⟩ := two_a (iv := ivS L xs) (L := L) (M := 120) (X := 23) (asM := [vr 307, vi (xs (i + 1).toNat).toInt, vi (xs (i + 2).toNat).toInt]) (asX := [vr 64, vi (xs (i + 1).toNat).toInt, vi (xs (i + 2).toNat).toInt]) hI (fun s c hp h0 => ps_offer hp (by decide) (by decide)) (okS_c trivial (okS_ci (i32_ok _).2 (okS_ci (i32_ok _).2 okS_n))) (okS_c trivial (okS_ci (i32_ok _).2 (okS_ci (i32_ok _).2 okS_n)))
  refine w_aload_n rfl rfl ?_
  refine w_aload_n rfl rfl ?_
  refine w_iload_n rfl rfl ?_
  refine w_iconst rfl rfl ?_
  refine w_iadd rfl r1 ?_
  refine w_scr rfl b1 ?_
  refine w_aload_n rfl rfl ?_
  refine w_iload_n rfl rfl ?_
  refine w_iconst rfl rfl ?_
  refine w_iadd rfl r2 ?_
  refine w_scr rfl b2 ?_
  refine law_virt (p := 64) (as := [vi (xs (i + 1).toNat).toInt, vi (xs (i + 2).toNat).toInt]) (r := []) rfl rfl rfl rfl (by decide) gx rfl rfl rx (fun _ e => by cases e; exact oX) ?_
  show wp (ivS L xs) L RpK csK 413 255 805 [lr 0, lr 64, lr 307, li i] [vi z'] (h1, k + k1, n0 + n1) Q
  refine w_pop rfl rfl ?_
  refine w_aload_n rfl rfl ?_
  refine w_aload_n rfl rfl ?_
  refine w_iload_n rfl rfl ?_
  refine w_iconst rfl rfl ?_
  refine w_iadd rfl r1 ?_
  refine w_scr rfl b1 ?_
  refine w_aload_n rfl rfl ?_
  refine w_iload_n rfl rfl ?_
  refine w_iconst rfl rfl ?_
  refine w_iadd rfl r2 ?_
  refine w_scr rfl b2 ?_
  refine law_virt (p := 307) (as := [vi (xs (i + 1).toNat).toInt, vi (xs (i + 2).toNat).toInt]) (r := []) rfl rfl rfl rfl (by decide) gm rfl rfl rm (fun _ e => by cases e; exact oM) ?_
  show wp (ivS L xs) L RpK csK 413 255 820 [lr 0, lr 64, lr 307, li i] [vi z] (h2, k + k1 + 0, n0 + n1 + 0) Q
  refine w_pop rfl rfl ?_
  refine w_goto rfl ?_
  exact hK _ hI'
/-- work -/
theorem lc_22 (hI : LI m S) (hm : (m : Int) < 512) (hi : 0 ≤ i) (hL : i + 3 < L) (h20 : L ≤ 2048) (hK : ∀ S, LI (m + 1) S → wp (ivS L xs) L RpK csK 413 255 1192 [lr 0, lr 64, lr 307, li i] [] S Q) : wp (ivS L xs) L RpK csK 413 255 824 [lr 0, lr 64, lr 307, li i] [] S Q := by
  obtain ⟨H, k, n0⟩ := S
  have b1 : 0 ≤ i + 1 ∧ i + 1 < (L : Int) := by omega
  have r1 : inR (i + 1) := by unfold inR; omega
  obtain ⟨⟨fx, gx⟩, v, v', f, k1, n1, h1, ⟨z, rfl, rfl⟩, ⟨oM, oX⟩, rx, ⟨fm, gm⟩, f2, h2, rm, hI'⟩ := two_i (iv := ivS L xs) (L := L) (M := 136) (X := 24) (asM := [vr 307, vi (xs (i + 1).toNat).toInt]) (asX := [vr 64, vi (xs (i + 1).toNat).toInt]) hI (fun s c hp h0 => ps_work hp (by decide) (by decide)) (okS_c trivial (okS_ci (i32_ok _).2 okS_n)) (okS_c trivial (okS_ci (i32_ok _).2 okS_n))
  refine w_aload_n rfl rfl ?_
  refine w_aload_n rfl rfl ?_
  refine w_iload_n rfl rfl ?_
  refine w_iconst rfl rfl ?_
  refine w_iadd rfl r1 ?_
  refine w_scr rfl b1 ?_
  refine law_virt (p := 64) (as := [vi (xs (i + 1).toNat).toInt]) (r := []) rfl rfl rfl rfl (by decide) gx rfl rfl rx (fun _ e => by cases e; exact oX) ?_
  show wp (ivS L xs) L RpK csK 413 255 833 [lr 0, lr 64, lr 307, li i] [vi z] (h1, k + k1, n0 + n1) Q
  refine w_pop rfl rfl ?_
  refine w_aload_n rfl rfl ?_
  refine w_aload_n rfl rfl ?_
  refine w_iload_n rfl rfl ?_
  refine w_iconst rfl rfl ?_
  refine w_iadd rfl r1 ?_
  refine w_scr rfl b1 ?_
  refine law_virt (p := 307) (as := [vi (xs (i + 1).toNat).toInt]) (r := []) rfl rfl rfl rfl (by decide) gm rfl rfl rm (fun _ e => by cases e; exact oM) ?_
  show wp (ivS L xs) L RpK csK 413 255 843 [lr 0, lr 64, lr 307, li i] [vi z] (h2, k + k1 + 0, n0 + n1 + 0) Q
  refine w_pop rfl rfl ?_
  refine w_goto rfl ?_
  exact hK _ hI'
/-- resume -/
theorem lc_23 (hI : LI m S) (hm : (m : Int) < 512) (hi : 0 ≤ i) (hL : i + 3 < L) (h20 : L ≤ 2048) (hK : ∀ S, LI (m + 1) S → wp (ivS L xs) L RpK csK 413 255 1192 [lr 0, lr 64, lr 307, li i] [] S Q) : wp (ivS L xs) L RpK csK 413 255 847 [lr 0, lr 64, lr 307, li i] [] S Q := by
  obtain ⟨H, k, n0⟩ := S
  have b1 : 0 ≤ i + 1 ∧ i + 1 < (L : Int) := by omega
  have r1 : inR (i + 1) := by unfold inR; omega
  obtain ⟨⟨fx, gx⟩, v, v', f, k1, n1, h1, ⟨z, rfl, rfl⟩, ⟨oM, oX⟩, rx, ⟨fm, gm⟩, f2, h2, rm, hI'⟩ := two_i (iv := ivS L xs) (L := L) (M := 138) (X := 25) (asM := [vr 307, vi (xs (i + 1).toNat).toInt]) (asX := [vr 64, vi (xs (i + 1).toNat).toInt]) hI (fun s c hp h0 => ps_resume hp (by decide) (by decide)) (okS_c trivial (okS_ci (i32_ok _).2 okS_n)) (okS_c trivial (okS_ci (i32_ok _).2 okS_n))
  refine w_aload_n rfl rfl ?_
  refine w_aload_n rfl rfl ?_
  refine w_iload_n rfl rfl ?_
  refine w_iconst rfl rfl ?_
  refine w_iadd rfl r1 ?_
  refine w_scr rfl b1 ?_
  refine law_virt (p := 64) (as := [vi (xs (i + 1).toNat).toInt]) (r := []) rfl rfl rfl rfl (by decide) gx rfl rfl rx (fun _ e => by cases e; exact oX) ?_
  show wp (ivS L xs) L RpK csK 413 255 856 [lr 0, lr 64, lr 307, li i] [vi z] (h1, k + k1, n0 + n1) Q
  refine w_pop rfl rfl ?_
  refine w_aload_n rfl rfl ?_
  refine w_aload_n rfl rfl ?_
  refine w_iload_n rfl rfl ?_
  refine w_iconst rfl rfl ?_
  refine w_iadd rfl r1 ?_
  refine w_scr rfl b1 ?_
  refine law_virt (p := 307) (as := [vi (xs (i + 1).toNat).toInt]) (r := []) rfl rfl rfl rfl (by decide) gm rfl rfl rm (fun _ e => by cases e; exact oM) ?_
  show wp (ivS L xs) L RpK csK 413 255 866 [lr 0, lr 64, lr 307, li i] [vi z] (h2, k + k1 + 0, n0 + n1 + 0) Q
  refine w_pop rfl rfl ?_
  refine w_goto rfl ?_
  exact hK _ hI'
/-- steps -/
theorem lc_24 (hI : LI m S) (hm : (m : Int) < 512) (hi : 0 ≤ i) (hL : i + 3 < L) (h20 : L ≤ 2048) (hK : ∀ S, LI (m + 1) S → wp (ivS L xs) L RpK csK 413 255 1192 [lr 0, lr 64, lr 307, li i] [] S Q) : wp (ivS L xs) L RpK csK 413 255 870 [lr 0, lr 64, lr 307, li i] [] S Q := by
  obtain ⟨H, k, n0⟩ := S
  obtain ⟨⟨fx, gx⟩, v, v', f, k1, n1, h1, ⟨z, rfl, rfl⟩, ⟨oM, oX⟩, rx, ⟨fm, gm⟩, f2, h2, rm, hI'⟩ := two_i (iv := ivS L xs) (L := L) (M := 139) (X := 26) (asM := [vr 307]) (asX := [vr 64]) hI (fun s c hp h0 => ps_steps hp (by decide) (by decide)) (okS_c trivial okS_n) (okS_c trivial okS_n)
  refine w_aload_n rfl rfl ?_
  refine law_virt (p := 64) (as := []) (r := []) rfl rfl rfl rfl (by decide) gx rfl rfl rx (fun _ e => by cases e; exact oX) ?_
  show wp (ivS L xs) L RpK csK 413 255 874 [lr 0, lr 64, lr 307, li i] [vi z] (h1, k + k1, n0 + n1) Q
  refine w_pop rfl rfl ?_
  refine w_aload_n rfl rfl ?_
  refine law_virt (p := 307) (as := []) (r := []) rfl rfl rfl rfl (by decide) gm rfl rfl rm (fun _ e => by cases e; exact oM) ?_
  show wp (ivS L xs) L RpK csK 413 255 879 [lr 0, lr 64, lr 307, li i] [vi z] (h2, k + k1 + 0, n0 + n1 + 0) Q
  refine w_pop rfl rfl ?_
  refine w_goto rfl ?_
  exact hK _ hI'
/-- where -/
theorem lc_25 (hI : LI m S) (hm : (m : Int) < 512) (hi : 0 ≤ i) (hL : i + 3 < L) (h20 : L ≤ 2048) (hK : ∀ S, LI (m + 1) S → wp (ivS L xs) L RpK csK 413 255 1192 [lr 0, lr 64, lr 307, li i] [] S Q) : wp (ivS L xs) L RpK csK 413 255 883 [lr 0, lr 64, lr 307, li i] [] S Q := by
  obtain ⟨H, k, n0⟩ := S
  obtain ⟨⟨fx, gx⟩, v, v', f, k1, n1, h1, ⟨z, rfl, rfl⟩, ⟨oM, oX⟩, rx, ⟨fm, gm⟩, f2, h2, rm, hI'⟩ := two_i (iv := ivS L xs) (L := L) (M := 140) (X := 27) (asM := [vr 307]) (asX := [vr 64]) hI (fun s c hp h0 => ps_where hp (by decide) (by decide)) (okS_c trivial okS_n) (okS_c trivial okS_n)
  refine w_aload_n rfl rfl ?_
  refine law_virt (p := 64) (as := []) (r := []) rfl rfl rfl rfl (by decide) gx rfl rfl rx (fun _ e => by cases e; exact oX) ?_
  show wp (ivS L xs) L RpK csK 413 255 887 [lr 0, lr 64, lr 307, li i] [vi z] (h1, k + k1, n0 + n1) Q
  refine w_pop rfl rfl ?_
  refine w_aload_n rfl rfl ?_
  refine law_virt (p := 307) (as := []) (r := []) rfl rfl rfl rfl (by decide) gm rfl rfl rm (fun _ e => by cases e; exact oM) ?_
  show wp (ivS L xs) L RpK csK 413 255 892 [lr 0, lr 64, lr 307, li i] [vi z] (h2, k + k1 + 0, n0 + n1 + 0) Q
  refine w_pop rfl rfl ?_
  refine w_goto rfl ?_
  exact hK _ hI'
/-- value -/
theorem lc_26 (hI : LI m S) (hm : (m : Int) < 512) (hi : 0 ≤ i) (hL : i + 3 < L) (h20 : L ≤ 2048) (hK : ∀ S, LI (m + 1) S → wp (ivS L xs) L RpK csK 413 255 1192 [lr 0, lr 64, lr 307, li i] [] S Q) : wp (ivS L xs) L RpK csK 413 255 896 [lr 0, lr 64, lr 307, li i] [] S Q := by
  obtain ⟨H, k, n0⟩ := S
  have b1 : 0 ≤ i + 1 ∧ i + 1 < (L : Int) := by omega
  have r1 : inR (i + 1) := by unfold inR; omega
  obtain ⟨⟨fx, gx⟩, v, v', f, k1, n1, h1, ⟨z, rfl, rfl⟩, ⟨oM, oX⟩, rx, ⟨fm, gm⟩, f2, h2, rm, hI'⟩ := two_i (iv := ivS L xs) (L := L) (M := 148) (X := 28) (asM := [vr 307, vi (xs (i + 1).toNat).toInt]) (asX := [vr 64, vi (xs (i + 1).toNat).toInt]) hI (fun s c hp h0 => ps_value hp (by decide) (by decide)) (okS_c trivial (okS_ci (i32_ok _).2 okS_n)) (okS_c trivial (okS_ci (i32_ok _).2 okS_n))
  refine w_aload_n rfl rfl ?_
  refine w_aload_n rfl rfl ?_
  refine w_iload_n rfl rfl ?_
  refine w_iconst rfl rfl ?_
  refine w_iadd rfl r1 ?_
  refine w_scr rfl b1 ?_
  refine law_virt (p := 64) (as := [vi (xs (i + 1).toNat).toInt]) (r := []) rfl rfl rfl rfl (by decide) gx rfl rfl rx (fun _ e => by cases e; exact oX) ?_
  show wp (ivS L xs) L RpK csK 413 255 905 [lr 0, lr 64, lr 307, li i] [vi z] (h1, k + k1, n0 + n1) Q
  refine w_pop rfl rfl ?_
  refine w_aload_n rfl rfl ?_
  refine w_aload_n rfl rfl ?_
  refine w_iload_n rfl rfl ?_
  refine w_iconst rfl rfl ?_
  refine w_iadd rfl r1 ?_
  refine w_scr rfl b1 ?_
  refine law_virt (p := 307) (as := [vi (xs (i + 1).toNat).toInt]) (r := []) rfl rfl rfl rfl (by decide) gm rfl rfl rm (fun _ e => by cases e; exact oM) ?_
  show wp (ivS L xs) L RpK csK 413 255 915 [lr 0, lr 64, lr 307, li i] [vi z] (h2, k + k1 + 0, n0 + n1 + 0) Q
  refine w_pop rfl rfl ?_
  refine w_goto rfl ?_
  exact hK _ hI'
/-- left -/
theorem lc_27 (hI : LI m S) (hm : (m : Int) < 512) (hi : 0 ≤ i) (hL : i + 3 < L) (h20 : L ≤ 2048) (hK : ∀ S, LI (m + 1) S → wp (ivS L xs) L RpK csK 413 255 1192 [lr 0, lr 64, lr 307, li i] [] S Q) : wp (ivS L xs) L RpK csK 413 255 919 [lr 0, lr 64, lr 307, li i] [] S Q := by
  obtain ⟨H, k, n0⟩ := S
  have b1 : 0 ≤ i + 1 ∧ i + 1 < (L : Int) := by omega
  have r1 : inR (i + 1) := by unfold inR; omega
  obtain ⟨⟨fx, gx⟩, v, v', f, k1, n1, h1, ⟨z, rfl, rfl⟩, ⟨oM, oX⟩, rx, ⟨fm, gm⟩, f2, h2, rm, hI'⟩ := two_i (iv := ivS L xs) (L := L) (M := 149) (X := 29) (asM := [vr 307, vi (xs (i + 1).toNat).toInt]) (asX := [vr 64, vi (xs (i + 1).toNat).toInt]) hI (fun s c hp h0 => ps_left hp (by decide) (by decide)) (okS_c trivial (okS_ci (i32_ok _).2 okS_n)) (okS_c trivial (okS_ci (i32_ok _).2 okS_n))
  refine w_aload_n rfl rfl ?_
  refine w_aload_n rfl rfl ?_
  refine w_iload_n rfl rfl ?_
  refine w_iconst rfl rfl ?_
  refine w_iadd rfl r1 ?_
  refine w_scr rfl b1 ?_
  refine law_virt (p := 64) (as := [vi (xs (i + 1).toNat).toInt]) (r := []) rfl rfl rfl rfl (by decide) gx rfl rfl rx (fun _ e => by cases e; exact oX) ?_
  show wp (ivS L xs) L RpK csK 413 255 928 [lr 0, lr 64, lr 307, li i] [vi z] (h1, k + k1, n0 + n1) Q
  refine w_pop rfl rfl ?_
  refine w_aload_n rfl rfl ?_
  refine w_aload_n rfl rfl ?_
  refine w_iload_n rfl rfl ?_
  refine w_iconst rfl rfl ?_
  refine w_iadd rfl r1 ?_
  refine w_scr rfl b1 ?_
  refine law_virt (p := 307) (as := [vi (xs (i + 1).toNat).toInt]) (r := []) rfl rfl rfl rfl (by decide) gm rfl rfl rm (fun _ e => by cases e; exact oM) ?_
  show wp (ivS L xs) L RpK csK 413 255 938 [lr 0, lr 64, lr 307, li i] [vi z] (h2, k + k1 + 0, n0 + n1 + 0) Q
  refine w_pop rfl rfl ?_
  refine w_goto rfl ?_
  exact hK _ hI'
/-- seen -/
theorem lc_28 (hI : LI m S) (hm : (m : Int) < 512) (hi : 0 ≤ i) (hL : i + 3 < L) (h20 : L ≤ 2048) (hK : ∀ S, LI (m + 1) S → wp (ivS L xs) L RpK csK 413 255 1192 [lr 0, lr 64, lr 307, li i] [] S Q) : wp (ivS L xs) L RpK csK 413 255 942 [lr 0, lr 64, lr 307, li i] [] S Q := by
  obtain ⟨H, k, n0⟩ := S
  have b1 : 0 ≤ i + 1 ∧ i + 1 < (L : Int) := by omega
  have r1 : inR (i + 1) := by unfold inR; omega
  have b2 : 0 ≤ i + 2 ∧ i + 2 < (L : Int) := by omega
  have r2 : inR (i + 2) := by unfold inR; omega
  have b3 : 0 ≤ i + 3 ∧ i + 3 < (L : Int) := by omega
  have r3 : inR (i + 3) := by unfold inR; omega
  obtain ⟨⟨fx, gx⟩, v, v', f, k1, n1, h1, ⟨z, rfl, rfl⟩, ⟨oM, oX⟩, rx, ⟨fm, gm⟩, f2, h2, rm, hI'⟩ := two_i (iv := ivS L xs) (L := L) (M := 150) (X := 30) (asM := [vr 307, vi (xs (i + 1).toNat).toInt, vi (xs (i + 2).toNat).toInt, vi (xs (i + 3).toNat).toInt]) (asX := [vr 64, vi (xs (i + 1).toNat).toInt, vi (xs (i + 2).toNat).toInt, vi (xs (i + 3).toNat).toInt]) hI (fun s c hp h0 => ps_seen hp (by decide) (by decide)) (okS_c trivial (okS_ci (i32_ok _).2 (okS_ci (i32_ok _).2 (okS_ci (i32_ok _).2 okS_n)))) (okS_c trivial (okS_ci (i32_ok _).2 (okS_ci (i32_ok _).2 (okS_ci (i32_ok _).2 okS_n))))
  refine w_aload_n rfl rfl ?_
  refine w_aload_n rfl rfl ?_
  refine w_iload_n rfl rfl ?_
  refine w_iconst rfl rfl ?_
  refine w_iadd rfl r1 ?_
  refine w_scr rfl b1 ?_
  refine w_aload_n rfl rfl ?_
  refine w_iload_n rfl rfl ?_
  refine w_iconst rfl rfl ?_
  refine w_iadd rfl r2 ?_
  refine w_scr rfl b2 ?_
  refine w_aload_n rfl rfl ?_
  refine w_iload_n rfl rfl ?_
  refine w_iconst rfl rfl ?_
  refine w_iadd rfl r3 ?_
  refine w_scr rfl b3 ?_
  refine law_virt (p := 64) (as := [vi (xs (i + 1).toNat).toInt, vi (xs (i + 2).toNat).toInt, vi (xs (i + 3).toNat).toInt]) (r := []) rfl rfl rfl rfl (by decide) gx rfl rfl rx (fun _ e => by cases e; exact oX) ?_
  show wp (ivS L xs) L RpK csK 413 255 961 [lr 0, lr 64, lr 307, li i] [vi z] (h1, k + k1, n0 + n1) Q
  refine w_pop rfl rfl ?_
  refine w_aload_n rfl rfl ?_
  refine w_aload_n rfl rfl ?_
  refine w_iload_n rfl rfl ?_
  refine w_iconst rfl rfl ?_
  refine w_iadd rfl r1 ?_
  refine w_scr rfl b1 ?_
  refine w_aload_n rfl rfl ?_
  refine w_iload_n rfl rfl ?_
  refine w_iconst rfl rfl ?_
  refine w_iadd rfl r2 ?_
  refine w_scr rfl b2 ?_
  refine w_aload_n rfl rfl ?_
  refine w_iload_n rfl rfl ?_
  refine w_iconst rfl rfl ?_
  refine w_iadd rfl r3 ?_
  refine w_scr rfl b3 ?_
  refine law_virt (p := 307) (as := [vi (xs (i + 1).toNat).toInt, vi (xs (i + 2).toNat).toInt, vi (xs (i + 3).toNat).toInt]) (r := []) rfl rfl rfl rfl (by decide) gm rfl rfl rm (fun _ e => by cases e; exact oM) ?_
  show wp (ivS L xs) L RpK csK 413 255 981 [lr 0, lr 64, lr 307, li i] [vi z] (h2, k + k1 + 0, n0 + n1 + 0) Q
  refine w_pop rfl rfl ?_
  refine w_goto rfl ?_
  exact hK _ hI'
/-- box -/
theorem lc_29 (hI : LI m S) (hm : (m : Int) < 512) (hi : 0 ≤ i) (hL : i + 3 < L) (h20 : L ≤ 2048) (hK : ∀ S, LI (m + 1) S → wp (ivS L xs) L RpK csK 413 255 1192 [lr 0, lr 64, lr 307, li i] [] S Q) : wp (ivS L xs) L RpK csK 413 255 985 [lr 0, lr 64, lr 307, li i] [] S Q := by
  obtain ⟨H, k, n0⟩ := S
  have b1 : 0 ≤ i + 1 ∧ i + 1 < (L : Int) := by omega
  have r1 : inR (i + 1) := by unfold inR; omega
  obtain ⟨⟨fx, gx⟩, v, v', f, k1, n1, h1, ⟨z, rfl, rfl⟩, ⟨oM, oX⟩, rx, ⟨fm, gm⟩, f2, h2, rm, hI'⟩ := two_i (iv := ivS L xs) (L := L) (M := 151) (X := 31) (asM := [vr 307, vi (xs (i + 1).toNat).toInt]) (asX := [vr 64, vi (xs (i + 1).toNat).toInt]) hI (fun s c hp h0 => ps_box hp (by omega) (by decide) (by decide)) (okS_c trivial (okS_ci (i32_ok _).2 okS_n)) (okS_c trivial (okS_ci (i32_ok _).2 okS_n))
  refine w_aload_n rfl rfl ?_
  refine w_aload_n rfl rfl ?_
  refine w_iload_n rfl rfl ?_
  refine w_iconst rfl rfl ?_
  refine w_iadd rfl r1 ?_
  refine w_scr rfl b1 ?_
  refine law_virt (p := 64) (as := [vi (xs (i + 1).toNat).toInt]) (r := []) rfl rfl rfl rfl (by decide) gx rfl rfl rx (fun _ e => by cases e; exact oX) ?_
  show wp (ivS L xs) L RpK csK 413 255 994 [lr 0, lr 64, lr 307, li i] [vi z] (h1, k + k1, n0 + n1) Q
  refine w_pop rfl rfl ?_
  refine w_aload_n rfl rfl ?_
  refine w_aload_n rfl rfl ?_
  refine w_iload_n rfl rfl ?_
  refine w_iconst rfl rfl ?_
  refine w_iadd rfl r1 ?_
  refine w_scr rfl b1 ?_
  refine law_virt (p := 307) (as := [vi (xs (i + 1).toNat).toInt]) (r := []) rfl rfl rfl rfl (by decide) gm rfl rfl rm (fun _ e => by cases e; exact oM) ?_
  show wp (ivS L xs) L RpK csK 413 255 1004 [lr 0, lr 64, lr 307, li i] [vi z] (h2, k + k1 + 0, n0 + n1 + 0) Q
  refine w_pop rfl rfl ?_
  refine w_goto rfl ?_
  exact hK _ hI'
/-- keep -/
theorem lc_30 (hI : LI m S) (hm : (m : Int) < 512) (hi : 0 ≤ i) (hL : i + 3 < L) (h20 : L ≤ 2048) (hK : ∀ S, LI (m + 1) S → wp (ivS L xs) L RpK csK 413 255 1192 [lr 0, lr 64, lr 307, li i] [] S Q) : wp (ivS L xs) L RpK csK 413 255 1008 [lr 0, lr 64, lr 307, li i] [] S Q := by
  obtain ⟨H, k, n0⟩ := S
  have b1 : 0 ≤ i + 1 ∧ i + 1 < (L : Int) := by omega
  have r1 : inR (i + 1) := by unfold inR; omega
  have b2 : 0 ≤ i + 2 ∧ i + 2 < (L : Int) := by omega
  have r2 : inR (i + 2) := by unfold inR; omega
  obtain ⟨⟨fx, gx⟩, v, v', f, k1, n1, h1, ⟨z, rfl, rfl⟩, ⟨oM, oX⟩, rx, ⟨fm, gm⟩, f2, h2, rm, hI'⟩ := two_i (iv := ivS L xs) (L := L) (M := 152) (X := 32) (asM := [vr 307, vi (xs (i + 1).toNat).toInt, vi (xs (i + 2).toNat).toInt]) (asX := [vr 64, vi (xs (i + 1).toNat).toInt, vi (xs (i + 2).toNat).toInt]) hI (fun s c hp h0 => ps_keep hp (by omega) (by decide) (by decide)) (okS_c trivial (okS_ci (i32_ok _).2 (okS_ci (i32_ok _).2 okS_n))) (okS_c trivial (okS_ci (i32_ok _).2 (okS_ci (i32_ok _).2 okS_n)))
  refine w_aload_n rfl rfl ?_
  refine w_aload_n rfl rfl ?_
  refine w_iload_n rfl rfl ?_
  refine w_iconst rfl rfl ?_
  refine w_iadd rfl r1 ?_
  refine w_scr rfl b1 ?_
  refine w_aload_n rfl rfl ?_
  refine w_iload_n rfl rfl ?_
  refine w_iconst rfl rfl ?_
  refine w_iadd rfl r2 ?_
  refine w_scr rfl b2 ?_
  refine law_virt (p := 64) (as := [vi (xs (i + 1).toNat).toInt, vi (xs (i + 2).toNat).toInt]) (r := []) rfl rfl rfl rfl (by decide) gx rfl rfl rx (fun _ e => by cases e; exact oX) ?_
  show wp (ivS L xs) L RpK csK 413 255 1022 [lr 0, lr 64, lr 307, li i] [vi z] (h1, k + k1, n0 + n1) Q
  refine w_pop rfl rfl ?_
  refine w_aload_n rfl rfl ?_
  refine w_aload_n rfl rfl ?_
  refine w_iload_n rfl rfl ?_
  refine w_iconst rfl rfl ?_
  refine w_iadd rfl r1 ?_
  refine w_scr rfl b1 ?_
  refine w_aload_n rfl rfl ?_
  refine w_iload_n rfl rfl ?_
  refine w_iconst rfl rfl ?_
  refine w_iadd rfl r2 ?_
  refine w_scr rfl b2 ?_
  refine law_virt (p := 307) (as := [vi (xs (i + 1).toNat).toInt, vi (xs (i + 2).toNat).toInt]) (r := []) rfl rfl rfl rfl (by decide) gm rfl rfl rm (fun _ e => by cases e; exact oM) ?_
  show wp (ivS L xs) L RpK csK 413 255 1037 [lr 0, lr 64, lr 307, li i] [vi z] (h2, k + k1 + 0, n0 + n1 + 0) Q
  refine w_pop rfl rfl ?_
  refine w_goto rfl ?_
  exact hK _ hI'
/-- boxed -/
theorem lc_31 (hI : LI m S) (hm : (m : Int) < 512) (hi : 0 ≤ i) (hL : i + 3 < L) (h20 : L ≤ 2048) (hK : ∀ S, LI (m + 1) S → wp (ivS L xs) L RpK csK 413 255 1192 [lr 0, lr 64, lr 307, li i] [] S Q) : wp (ivS L xs) L RpK csK 413 255 1041 [lr 0, lr 64, lr 307, li i] [] S Q := by
  obtain ⟨H, k, n0⟩ := S
  have b1 : 0 ≤ i + 1 ∧ i + 1 < (L : Int) := by omega
  have r1 : inR (i + 1) := by unfold inR; omega
  have b2 : 0 ≤ i + 2 ∧ i + 2 < (L : Int) := by omega
  have r2 : inR (i + 2) := by unfold inR; omega
  obtain ⟨⟨fx, gx⟩, v, v', f, k1, n1, h1, ⟨z, rfl, rfl⟩, ⟨oM, oX⟩, rx, ⟨fm, gm⟩, f2, h2, rm, hI'⟩ := two_i (iv := ivS L xs) (L := L) (M := 154) (X := 33) (asM := [vr 307, vi (xs (i + 1).toNat).toInt, vi (xs (i + 2).toNat).toInt]) (asX := [vr 64, vi (xs (i + 1).toNat).toInt, vi (xs (i + 2).toNat).toInt]) hI (fun s c hp h0 => ps_boxed hp (by omega) (by decide) (by decide)) (okS_c trivial (okS_ci (i32_ok _).2 (okS_ci (i32_ok _).2 okS_n))) (okS_c trivial (okS_ci (i32_ok _).2 (okS_ci (i32_ok _).2 okS_n)))
  refine w_aload_n rfl rfl ?_
  refine w_aload_n rfl rfl ?_
  refine w_iload_n rfl rfl ?_
  refine w_iconst rfl rfl ?_
  refine w_iadd rfl r1 ?_
  refine w_scr rfl b1 ?_
  refine w_aload_n rfl rfl ?_
  refine w_iload_n rfl rfl ?_
  refine w_iconst rfl rfl ?_
  refine w_iadd rfl r2 ?_
  refine w_scr rfl b2 ?_
  refine law_virt (p := 64) (as := [vi (xs (i + 1).toNat).toInt, vi (xs (i + 2).toNat).toInt]) (r := []) rfl rfl rfl rfl (by decide) gx rfl rfl rx (fun _ e => by cases e; exact oX) ?_
  show wp (ivS L xs) L RpK csK 413 255 1055 [lr 0, lr 64, lr 307, li i] [vi z] (h1, k + k1, n0 + n1) Q
  refine w_pop rfl rfl ?_
  refine w_aload_n rfl rfl ?_
  refine w_aload_n rfl rfl ?_
  refine w_iload_n rfl rfl ?_
  refine w_iconst rfl rfl ?_
  refine w_iadd rfl r1 ?_
  refine w_scr rfl b1 ?_
  refine w_aload_n rfl rfl ?_
  refine w_iload_n rfl rfl ?_
  refine w_iconst rfl rfl ?_
  refine w_iadd rfl r2 ?_
  refine w_scr rfl b2 ?_
  refine law_virt (p := 307) (as := [vi (xs (i + 1).toNat).toInt, vi (xs (i + 2).toNat).toInt]) (r := []) rfl rfl rfl rfl (by decide) gm rfl rfl rm (fun _ e => by cases e; exact oM) ?_
  show wp (ivS L xs) L RpK csK 413 255 1070 [lr 0, lr 64, lr 307, li i] [vi z] (h2, k + k1 + 0, n0 + n1 + 0) Q
  refine w_pop rfl rfl ?_
  refine w_goto rfl ?_
  exact hK _ hI'
/-- share -/
theorem lc_32 (hI : LI m S) (hm : (m : Int) < 512) (hi : 0 ≤ i) (hL : i + 3 < L) (h20 : L ≤ 2048) (hK : ∀ S, LI (m + 1) S → wp (ivS L xs) L RpK csK 413 255 1192 [lr 0, lr 64, lr 307, li i] [] S Q) : wp (ivS L xs) L RpK csK 413 255 1074 [lr 0, lr 64, lr 307, li i] [] S Q := by
  obtain ⟨H, k, n0⟩ := S
  have b1 : 0 ≤ i + 1 ∧ i + 1 < (L : Int) := by omega
  have r1 : inR (i + 1) := by unfold inR; omega
  have b2 : 0 ≤ i + 2 ∧ i + 2 < (L : Int) := by omega
  have r2 : inR (i + 2) := by unfold inR; omega
  obtain ⟨⟨fx, gx⟩, v, v', f, k1, n1, h1, ⟨z, rfl, rfl⟩, ⟨oM, oX⟩, rx, ⟨fm, gm⟩, f2, h2, rm, hI'⟩ := two_i (iv := ivS L xs) (L := L) (M := 155) (X := 34) (asM := [vr 307, vi (xs (i + 1).toNat).toInt, vi (xs (i + 2).toNat).toInt]) (asX := [vr 64, vi (xs (i + 1).toNat).toInt, vi (xs (i + 2).toNat).toInt]) hI (fun s c hp h0 => ps_share hp (by omega) (by decide) (by decide)) (okS_c trivial (okS_ci (i32_ok _).2 (okS_ci (i32_ok _).2 okS_n))) (okS_c trivial (okS_ci (i32_ok _).2 (okS_ci (i32_ok _).2 okS_n)))
  refine w_aload_n rfl rfl ?_
  refine w_aload_n rfl rfl ?_
  refine w_iload_n rfl rfl ?_
  refine w_iconst rfl rfl ?_
  refine w_iadd rfl r1 ?_
  refine w_scr rfl b1 ?_
  refine w_aload_n rfl rfl ?_
  refine w_iload_n rfl rfl ?_
  refine w_iconst rfl rfl ?_
  refine w_iadd rfl r2 ?_
  refine w_scr rfl b2 ?_
  refine law_virt (p := 64) (as := [vi (xs (i + 1).toNat).toInt, vi (xs (i + 2).toNat).toInt]) (r := []) rfl rfl rfl rfl (by decide) gx rfl rfl rx (fun _ e => by cases e; exact oX) ?_
  show wp (ivS L xs) L RpK csK 413 255 1088 [lr 0, lr 64, lr 307, li i] [vi z] (h1, k + k1, n0 + n1) Q
  refine w_pop rfl rfl ?_
  refine w_aload_n rfl rfl ?_
  refine w_aload_n rfl rfl ?_
  refine w_iload_n rfl rfl ?_
  refine w_iconst rfl rfl ?_
  refine w_iadd rfl r1 ?_
  refine w_scr rfl b1 ?_
  refine w_aload_n rfl rfl ?_
  refine w_iload_n rfl rfl ?_
  refine w_iconst rfl rfl ?_
  refine w_iadd rfl r2 ?_
  refine w_scr rfl b2 ?_
  refine law_virt (p := 307) (as := [vi (xs (i + 1).toNat).toInt, vi (xs (i + 2).toNat).toInt]) (r := []) rfl rfl rfl rfl (by decide) gm rfl rfl rm (fun _ e => by cases e; exact oM) ?_
  show wp (ivS L xs) L RpK csK 413 255 1103 [lr 0, lr 64, lr 307, li i] [vi z] (h2, k + k1 + 0, n0 + n1 + 0) Q
  refine w_pop rfl rfl ?_
  refine w_goto rfl ?_
  exact hK _ hI'
/-- asked -/
theorem lc_33 (hI : LI m S) (hm : (m : Int) < 512) (hi : 0 ≤ i) (hL : i + 3 < L) (h20 : L ≤ 2048) (hK : ∀ S, LI (m + 1) S → wp (ivS L xs) L RpK csK 413 255 1192 [lr 0, lr 64, lr 307, li i] [] S Q) : wp (ivS L xs) L RpK csK 413 255 1107 [lr 0, lr 64, lr 307, li i] [] S Q := by
  obtain ⟨H, k, n0⟩ := S
  obtain ⟨⟨fx, gx⟩, v, v', f, k1, n1, h1, ⟨z, z', rfl, rfl⟩, ⟨oM, oX⟩, rx, ⟨fm, gm⟩, f2, h2, rm, hI'⟩ := two_a (iv := ivS L xs) (L := L) (M := 156) (X := 35) (asM := [vr 307]) (asX := [vr 64]) hI (fun s c hp h0 => ps_asked hp (by decide) (by decide)) (okS_c trivial okS_n) (okS_c trivial okS_n)
  refine w_aload_n rfl rfl ?_
  refine law_virt (p := 64) (as := []) (r := []) rfl rfl rfl rfl (by decide) gx rfl rfl rx (fun _ e => by cases e; exact oX) ?_
  show wp (ivS L xs) L RpK csK 413 255 1111 [lr 0, lr 64, lr 307, li i] [vi z'] (h1, k + k1, n0 + n1) Q
  refine w_pop rfl rfl ?_
  refine w_aload_n rfl rfl ?_
  refine law_virt (p := 307) (as := []) (r := []) rfl rfl rfl rfl (by decide) gm rfl rfl rm (fun _ e => by cases e; exact oM) ?_
  show wp (ivS L xs) L RpK csK 413 255 1116 [lr 0, lr 64, lr 307, li i] [vi z] (h2, k + k1 + 0, n0 + n1 + 0) Q
  refine w_pop rfl rfl ?_
  refine w_goto rfl ?_
  exact hK _ hI'
/-- count -/
theorem lc_34 (hI : LI m S) (hm : (m : Int) < 512) (hi : 0 ≤ i) (hL : i + 3 < L) (h20 : L ≤ 2048) (hK : ∀ S, LI (m + 1) S → wp (ivS L xs) L RpK csK 413 255 1192 [lr 0, lr 64, lr 307, li i] [] S Q) : wp (ivS L xs) L RpK csK 413 255 1120 [lr 0, lr 64, lr 307, li i] [] S Q := by
  obtain ⟨H, k, n0⟩ := S
  have b1 : 0 ≤ i + 1 ∧ i + 1 < (L : Int) := by omega
  have r1 : inR (i + 1) := by unfold inR; omega
  obtain ⟨⟨fx, gx⟩, v, v', f, k1, n1, h1, ⟨z, rfl, rfl⟩, ⟨oM, oX⟩, rx, ⟨fm, gm⟩, f2, h2, rm, hI'⟩ := two_i (iv := ivS L xs) (L := L) (M := 157) (X := 36) (asM := [vr 307, vi (xs (i + 1).toNat).toInt]) (asX := [vr 64, vi (xs (i + 1).toNat).toInt]) hI (fun s c hp h0 => ps_count hp (by decide) (by decide)) (okS_c trivial (okS_ci (i32_ok _).2 okS_n)) (okS_c trivial (okS_ci (i32_ok _).2 okS_n))
  refine w_aload_n rfl rfl ?_
  refine w_aload_n rfl rfl ?_
  refine w_iload_n rfl rfl ?_
  refine w_iconst rfl rfl ?_
  refine w_iadd rfl r1 ?_
  refine w_scr rfl b1 ?_
  refine law_virt (p := 64) (as := [vi (xs (i + 1).toNat).toInt]) (r := []) rfl rfl rfl rfl (by decide) gx rfl rfl rx (fun _ e => by cases e; exact oX) ?_
  show wp (ivS L xs) L RpK csK 413 255 1129 [lr 0, lr 64, lr 307, li i] [vi z] (h1, k + k1, n0 + n1) Q
  refine w_pop rfl rfl ?_
  refine w_aload_n rfl rfl ?_
  refine w_aload_n rfl rfl ?_
  refine w_iload_n rfl rfl ?_
  refine w_iconst rfl rfl ?_
  refine w_iadd rfl r1 ?_
  refine w_scr rfl b1 ?_
  refine law_virt (p := 307) (as := [vi (xs (i + 1).toNat).toInt]) (r := []) rfl rfl rfl rfl (by decide) gm rfl rfl rm (fun _ e => by cases e; exact oM) ?_
  show wp (ivS L xs) L RpK csK 413 255 1139 [lr 0, lr 64, lr 307, li i] [vi z] (h2, k + k1 + 0, n0 + n1 + 0) Q
  refine w_pop rfl rfl ?_
  refine w_goto rfl ?_
  exact hK _ hI'
/-- finding -/
theorem lc_35 (hI : LI m S) (hm : (m : Int) < 512) (hi : 0 ≤ i) (hL : i + 3 < L) (h20 : L ≤ 2048) (hK : ∀ S, LI (m + 1) S → wp (ivS L xs) L RpK csK 413 255 1192 [lr 0, lr 64, lr 307, li i] [] S Q) : wp (ivS L xs) L RpK csK 413 255 1143 [lr 0, lr 64, lr 307, li i] [] S Q := by
  obtain ⟨H, k, n0⟩ := S
  obtain ⟨⟨fx, gx⟩, v, v', f, k1, n1, h1, ⟨z, rfl, rfl⟩, ⟨oM, oX⟩, rx, ⟨fm, gm⟩, f2, h2, rm, hI'⟩ := two_i (iv := ivS L xs) (L := L) (M := 62) (X := 37) (asM := [vr 307]) (asX := [vr 64]) hI (fun s c hp h0 => ps_finding hp (by decide) (by decide)) (okS_c trivial okS_n) (okS_c trivial okS_n)
  refine w_aload_n rfl rfl ?_
  refine law_virt (p := 64) (as := []) (r := []) rfl rfl rfl rfl (by decide) gx rfl rfl rx (fun _ e => by cases e; exact oX) ?_
  show wp (ivS L xs) L RpK csK 413 255 1147 [lr 0, lr 64, lr 307, li i] [vi z] (h1, k + k1, n0 + n1) Q
  refine w_pop rfl rfl ?_
  refine w_aload_n rfl rfl ?_
  refine law_virt (p := 307) (as := []) (r := []) rfl rfl rfl rfl (by decide) gm rfl rfl rm (fun _ e => by cases e; exact oM) ?_
  show wp (ivS L xs) L RpK csK 413 255 1152 [lr 0, lr 64, lr 307, li i] [vi z] (h2, k + k1 + 0, n0 + n1 + 0) Q
  refine w_pop rfl rfl ?_
  refine w_goto rfl ?_
  exact hK _ hI'
/-- findings -/
theorem lc_36 (hI : LI m S) (hm : (m : Int) < 512) (hi : 0 ≤ i) (hL : i + 3 < L) (h20 : L ≤ 2048) (hK : ∀ S, LI (m + 1) S → wp (ivS L xs) L RpK csK 413 255 1192 [lr 0, lr 64, lr 307, li i] [] S Q) : wp (ivS L xs) L RpK csK 413 255 1156 [lr 0, lr 64, lr 307, li i] [] S Q := by
  obtain ⟨H, k, n0⟩ := S
  have b1 : 0 ≤ i + 1 ∧ i + 1 < (L : Int) := by omega
  have r1 : inR (i + 1) := by unfold inR; omega
  obtain ⟨⟨fx, gx⟩, v, v', f, k1, n1, h1, ⟨z, rfl, rfl⟩, ⟨oM, oX⟩, rx, ⟨fm, gm⟩, f2, h2, rm, hI'⟩ := two_i (iv := ivS L xs) (L := L) (M := 63) (X := 38) (asM := [vr 307, vi (xs (i + 1).toNat).toInt]) (asX := [vr 64, vi (xs (i + 1).toNat).toInt]) hI (fun s c hp h0 => ps_findings hp (by decide) (by decide)) (okS_c trivial (okS_ci (i32_ok _).2 okS_n)) (okS_c trivial (okS_ci (i32_ok _).2 okS_n))
  refine w_aload_n rfl rfl ?_
  refine w_aload_n rfl rfl ?_
  refine w_iload_n rfl rfl ?_
  refine w_iconst rfl rfl ?_
  refine w_iadd rfl r1 ?_
  refine w_scr rfl b1 ?_
  refine law_virt (p := 64) (as := [vi (xs (i + 1).toNat).toInt]) (r := []) rfl rfl rfl rfl (by decide) gx rfl rfl rx (fun _ e => by cases e; exact oX) ?_
  show wp (ivS L xs) L RpK csK 413 255 1165 [lr 0, lr 64, lr 307, li i] [vi z] (h1, k + k1, n0 + n1) Q
  refine w_aload_n rfl rfl ?_
  refine w_aload_n rfl rfl ?_
  refine w_iload_n rfl rfl ?_
  refine w_iconst rfl rfl ?_
  refine w_iadd rfl r1 ?_
  refine w_scr rfl b1 ?_
  refine law_virt (p := 307) (as := [vi (xs (i + 1).toNat).toInt]) (r := [vi z]) rfl rfl rfl rfl (by decide) gm rfl rfl rm (fun _ e => by cases e; exact oM) ?_
  show wp (ivS L xs) L RpK csK 413 255 1174 [lr 0, lr 64, lr 307, li i] [vi z, vi z] (h2, k + k1 + 0, n0 + n1 + 0) Q
  refine w_icmp_eq rfl (fun _ => ?_) (fun h => absurd rfl h)
  exact hK _ hI'
/-- digest -/
theorem lc_37 (hI : LI m S) (hm : (m : Int) < 512) (hi : 0 ≤ i) (hL : i + 3 < L) (h20 : L ≤ 2048) (hK : ∀ S, LI (m + 1) S → wp (ivS L xs) L RpK csK 413 255 1192 [lr 0, lr 64, lr 307, li i] [] S Q) : wp (ivS L xs) L RpK csK 413 255 1179 [lr 0, lr 64, lr 307, li i] [] S Q := by
  obtain ⟨H, k, n0⟩ := S
  obtain ⟨⟨fx, gx⟩, v, v', f, k1, n1, h1, ⟨z, rfl, rfl⟩, ⟨oM, oX⟩, rx, ⟨fm, gm⟩, f2, h2, rm, hI'⟩ := two_l (iv := ivS L xs) (L := L) (M := 158) (X := 39) (asM := [vr 307]) (asX := [vr 64]) hI (fun s c hp h0 => ps_digest hp (by decide) (by decide)) (okS_c trivial okS_n) (okS_c trivial okS_n)
  refine w_aload_n rfl rfl ?_
  refine law_virt (p := 64) (as := []) (r := []) rfl rfl rfl rfl (by decide) gx rfl rfl rx (fun _ e => by cases e; exact oX) ?_
  show wp (ivS L xs) L RpK csK 413 255 1183 [lr 0, lr 64, lr 307, li i] [vl z] (h1, k + k1, n0 + n1) Q
  refine w_pop2 rfl ?_
  refine w_aload_n rfl rfl ?_
  refine law_virt (p := 307) (as := []) (r := []) rfl rfl rfl rfl (by decide) gm rfl rfl rm (fun _ e => by cases e; exact oM) ?_
  show wp (ivS L xs) L RpK csK 413 255 1188 [lr 0, lr 64, lr 307, li i] [vl z] (h2, k + k1 + 0, n0 + n1 + 0) Q
  refine w_pop2 rfl ?_
  refine w_goto rfl ?_
  exact hK _ hI'
end
theorem law_loop {L : Nat} {xs : Nat → Int32} (hL : L ≤ 2048) : ∀ (r m : Nat) (i : Int) (S : CS), LI m S → 4 * (m : Int) ≤ i → 0 ≤ i ∧ i ≤ 2048 → (L : Int) - 3 ≤ i + 4 * r → wp (ivS L xs) L RpK csK 413 255 18 [lr 0, lr 64, lr 307, li i] [] S (fun v S => v = some (vi 1) ∧ S.2.1 ≤ 600000 ∧ S.2.2 ≤ 7302249) := by
  intro r
  induction r with
  | zero =>
    intro m i S hI h4 h0 hr
    have hr : (L : Int) - 3 ≤ i := by omega
    refine w_iload_n rfl rfl ?_
    refine w_aload_n rfl rfl ?_
    refine w_len0 hL rfl ?_
    refine w_iconst rfl rfl ?_
    refine w_isub rfl (by unfold inR; omega) ?_
    refine w_icmp_gt rfl (fun _ => ?_) (fun h => absurd h (by omega))
    refine w_iconst rfl rfl ?_
    exact w_iretz rfl rfl (Or.inr rfl) ⟨rfl, LI_rm hI (by omega)⟩
  | succ r ih =>
    intro m i S hI h4 h0 hr
    refine w_iload_n rfl rfl ?_
    refine w_aload_n rfl rfl ?_
    refine w_len0 hL rfl ?_
    refine w_iconst rfl rfl ?_
    refine w_isub rfl (by unfold inR; omega) ?_
    refine w_icmp_gt rfl (fun _ => ?_) (fun h => ?_)
    · refine w_iconst rfl rfl ?_
      exact w_iretz rfl rfl (Or.inr rfl) ⟨rfl, LI_rm hI (by omega)⟩
    have hl : i + 3 < L := by omega
    have hm : (m : Int) < 512 := by omega
    have hK : ∀ S, LI (m + 1) S → wp (ivS L xs) L RpK csK 413 255 1192 [lr 0, lr 64, lr 307, li i] [] S (fun v S => v = some (vi 1) ∧ S.2.1 ≤ 600000 ∧ S.2.2 ≤ 7302249) := fun S' hI' => by
      refine w_iinc rfl rfl rfl (by unfold inR; omega) ?_
      refine w_goto rfl ?_
      exact ih (m + 1) (i + 4) S' hI' (by omega) (by omega) (by omega)
    have hK0 : wp (ivS L xs) L RpK csK 413 255 1192 [lr 0, lr 64, lr 307, li i] [] S (fun v S => v = some (vi 1) ∧ S.2.1 ≤ 600000 ∧ S.2.2 ≤ 7302249) := by
      refine w_iinc rfl rfl rfl (by unfold inR; omega) ?_
      refine w_goto rfl ?_
      exact ih m (i + 4) S hI (by omega) (by omega) (by omega)
    refine w_aload_n rfl rfl ?_
    refine w_iload_n rfl rfl ?_
    refine w_scr rfl (by omega) ?_
    refine w_bipush rfl rfl rfl ?_
    refine w_and63 rfl ?_
    refine w_tsw (td := 1192) (ts := [200, 259, 292, 325, 338, 351, 384, 417, 476, 525, 548, 571, 614, 627, 650, 673, 696, 719, 742, 765, 778, 791, 824, 847, 870, 883, 896, 919, 942, 985, 1008, 1041, 1074, 1107, 1120, 1143, 1156, 1179]) rfl rfl rfl rfl rfl rfl (fun _ => hK0) ?_
    exact ⟨fun _ => lc_0 hI hm h0.1 hl hL hK, fun _ => lc_1 hI hm h0.1 hl hL hK, fun _ => lc_2 hI hm h0.1 hl hL hK, fun _ => lc_3 hI hm h0.1 hl hL hK, fun _ => lc_4 hI hm h0.1 hl hL hK, fun _ => lc_5 hI hm h0.1 hl hL hK, fun _ => lc_6 hI hm h0.1 hl hL hK, fun _ => lc_7 hI hm h0.1 hl hL hK, fun _ => lc_8 hI hm h0.1 hl hL hK, fun _ => lc_9 hI hm h0.1 hl hL hK, fun _ => lc_10 hI hm h0.1 hl hL hK, fun _ => lc_11 hI hm h0.1 hl hL hK, fun _ => lc_12 hI hm h0.1 hl hL hK, fun _ => lc_13 hI hm h0.1 hl hL hK, fun _ => lc_14 hI hm h0.1 hl hL hK, fun _ => lc_15 hI hm h0.1 hl hL hK, fun _ => lc_16 hI hm h0.1 hl hL hK, fun _ => lc_17 hI hm h0.1 hl hL hK, fun _ => lc_18 hI hm h0.1 hl hL hK, fun _ => lc_19 hI hm h0.1 hl hL hK, fun _ => lc_20 hI hm h0.1 hl hL hK, fun _ => lc_21 hI hm h0.1 hl hL hK, fun _ => lc_22 hI hm h0.1 hl hL hK, fun _ => lc_23 hI hm h0.1 hl hL hK, fun _ => lc_24 hI hm h0.1 hl hL hK, fun _ => lc_25 hI hm h0.1 hl hL hK, fun _ => lc_26 hI hm h0.1 hl hL hK, fun _ => lc_27 hI hm h0.1 hl hL hK, fun _ => lc_28 hI hm h0.1 hl hL hK, fun _ => lc_29 hI hm h0.1 hl hL hK, fun _ => lc_30 hI hm h0.1 hl hL hK, fun _ => lc_31 hI hm h0.1 hl hL hK, fun _ => lc_32 hI hm h0.1 hl hL hK, fun _ => lc_33 hI hm h0.1 hl hL hK, fun _ => lc_34 hI hm h0.1 hl hL hK, fun _ => lc_35 hI hm h0.1 hl hL hK, fun _ => lc_36 hI hm h0.1 hl hL hK, fun _ => lc_37 hI hm h0.1 hl hL hK, trivial⟩
end
section
/-! The law's run behind its constructors, for any script. -/
theorem law_end {L : Nat} {xs : Nat → Int32} (hL : L ≤ 2048) : ∃ (f : Nat) (h' : MH) (k' n' : Nat), mrun (ivS L xs) (mG L (fun _ => 0)) f 413 255 16 [(2, .ref 307), (1, .ref 64), (0, .ref 0)] [] HM0 289 144644 = some (some (.int 1), h', k', n') ∧ k' ≤ 600000 ∧ n' ≤ 7302249 := by
  have hw : wp (ivS L xs) L RpK csK 413 255 16 [lr 0, lr 64, lr 307] [] (HM0, 289, 144644) (fun v S => v = some (vi 1) ∧ S.2.1 ≤ 600000 ∧ S.2.2 ≤ 7302249) := by
    refine w_iconst rfl rfl ?_
    refine w_istore_n rfl rfl ?_
    exact law_loop hL 512 0 0 _ LI_0 (by decide) (by decide) (by omega)
  obtain ⟨f, v, h', k, n, s', e, -, e3, e4, e5, hv, hk, hn⟩ := hw (fun i v h => by
    match i, h with
    | 0, h => cases h; trivial
    | 1, h => cases h; trivial
    | 2, h => cases h; trivial
    | _ + 3, h => cases h) (fun _ h => by cases h) HM0 [(2, .ref 307), (1, .ref 64), (0, .ref 0)] (fun i v h => by
    match i, h with
    | 0, h => cases h; rfl
    | 1, h => cases h; rfl
    | 2, h => cases h; rfl
    | _ + 3, h => cases h) rfl
  subst hv
  have e4 : 289 + k = s'.2.1 := e4
  have e5 : 144644 + n = s'.2.2 := e5
  have p := mrun_k _ _ _ _ _ _ _ _ _ _ _ _ _ 289 144644 e
  exact ⟨f, h', 289 + k, 144644 + n, p, by omega, by omega⟩
end
section
/-! The law from its start, for any script. -/
theorem ivS_P {L : Nat} {xs : Nat → Int32} : ivP xs (ivS L xs) := by
  refine ⟨fun j a b h => ?_, fun h => ?_⟩
  · have hj : j < max L 6 := by
      rw [← ivS_len (L := L) (xs := xs)]
      exact (List.getElem?_eq_some_iff.mp h).1
    rw [ivS_at hj] at h
    cases h
    exact ⟨Int.le_refl _, Int.le_refl _⟩
  · have := ivS_6 (L := L) (xs := xs)
    omega
theorem law_pre {l : Launch} {D : va_G} {dA : Nat → ClassId} {pre : Nat → Nat} {base : Nat} {ρ : Nat → Int32} {iv : List (Int × Int)} (hI : ivP ρ iv) (h6 : 6 ≤ iv.length) (hj : ∀ j, j < 6 → ∃ a, iv[j]? = some (a, a)) {L k' n' : Nat} {h' : MH} {v : Option Value} (hk : 289 ≤ k') (hn : 144644 ≤ n')
    (hb : mBody l D cl0 dA pre base ρ tyL0 Ts0 NW0 (mG L (fun _ => 0)) YB0 413 255 16 [(2, .ref 307), (1, .ref 64), (0, .ref 0)] [] HM0 289 144644 v h' k' n') : mBody l D cl0 dA pre base ρ tyL0 Ts0 NW0 (mG L (fun _ => 0)) YB0 413 255 0 [(0, .ref 0)] [] (64, []) 0 0 v h' k' n' := by
  refine body_on (i := .new 7) (nx := 3) (x := 0) (y := 0) hI rfl rfl rfl (by show 0 + 1 ≤ k'; omega) (by show 0 + 16 ≤ n'; omega) ?_
  show mBody l D cl0 dA pre base ρ tyL0 Ts0 NW0 (mG L (fun _ => 0)) YB0 413 255 3 [(0, .ref 0)] [.ref 64] (65, [.inr (0, bls.getD 0 [])]) 1 16 v h' k' n'
  refine body_on (i := .dup) (nx := 4) (x := 0) (y := 0) hI rfl rfl rfl (by show 0 + 1 + 0 ≤ k'; omega) (by show 0 + 16 + 0 ≤ n'; omega) ?_
  show mBody l D cl0 dA pre base ρ tyL0 Ts0 NW0 (mG L (fun _ => 0)) YB0 413 255 4 [(0, .ref 0)] [.ref 64, .ref 64] (65, [.inr (0, bls.getD 0 [])]) 1 16 v h' k' n'
  refine body_call (i := .invokespecial 9) (nx := 7) (x := 1) (y := 0) hI rfl rfl rfl (Nat.le_of_ble_eq_true rfl) (Nat.le_of_ble_eq_true rfl) (Nat.le_of_ble_eq_true rfl) (mrun_f 20000 20000 29 412 _ _ _ _ _ _ _ _ (Nat.le_refl _) (by decide) (ctor_x h6 hj)) (by show 0 + 1 + 0 + 242 ≤ k'; omega) (by show 0 + 16 + 0 + 24762 ≤ n'; omega) ?_
  show mBody l D cl0 dA pre base ρ tyL0 Ts0 NW0 (mG L (fun _ => 0)) YB0 413 255 7 [(0, .ref 0)] [.ref 64] HX0 243 24778 v h' k' n'
  refine body_on (i := .astore_n 1) (nx := 8) (x := 0) (y := 0) hI rfl rfl rfl (by show 243 + 0 ≤ k'; omega) (by show 24778 + 0 ≤ n'; omega) ?_
  show mBody l D cl0 dA pre base ρ tyL0 Ts0 NW0 (mG L (fun _ => 0)) YB0 413 255 8 [(1, .ref 64), (0, .ref 0)] [] HX0 243 24778 v h' k' n'
  refine body_on (i := .new 10) (nx := 11) (x := 12) (y := 0) hI rfl rfl rfl (by show 243 + 1 ≤ k'; omega) (by show 24778 + 74 ≤ n'; omega) ?_
  show mBody l D cl0 dA pre base ρ tyL0 Ts0 NW0 (mG L (fun _ => 0)) YB0 413 255 11 [(1, .ref 64), (0, .ref 0)] [.ref 307] (mpush HX0 (.inr (12, bls.getD 12 []))) 244 24852 v h' k' n'
  refine body_on (i := .dup) (nx := 12) (x := 0) (y := 0) hI rfl rfl rfl (by show 244 + 0 ≤ k'; omega) (by show 24852 + 0 ≤ n'; omega) ?_
  show mBody l D cl0 dA pre base ρ tyL0 Ts0 NW0 (mG L (fun _ => 0)) YB0 413 255 12 [(1, .ref 64), (0, .ref 0)] [.ref 307, .ref 307] (mpush HX0 (.inr (12, bls.getD 12 []))) 244 24852 v h' k' n'
  refine body_call (i := .invokespecial 12) (nx := 15) (x := 59) (y := 0) hI rfl rfl rfl (Nat.le_of_ble_eq_true rfl) (Nat.le_of_ble_eq_true rfl) (Nat.le_of_ble_eq_true rfl) (mrun_f 20000 20000 29 412 _ _ _ _ _ _ _ _ (Nat.le_refl _) (by decide) (ctor_m h6 hj)) (by show 244 + 45 ≤ k'; omega) (by show 24852 + 119792 ≤ n'; omega) ?_
  show mBody l D cl0 dA pre base ρ tyL0 Ts0 NW0 (mG L (fun _ => 0)) YB0 413 255 15 [(1, .ref 64), (0, .ref 0)] [.ref 307] HM0 289 144644 v h' k' n'
  refine body_on (i := .astore_n 2) (nx := 16) (x := 0) (y := 0) hI rfl rfl rfl (by show 289 + 0 ≤ k'; omega) (by show 144644 + 0 ≤ n'; omega) ?_
  exact hb
theorem whole_start {p : Program} {e : Env} {s : State} {m : MethodId} {below : List Frame} {meth : Method} {c : Code} (l : Launch) (_hflags : l.flags = flags0) {b L : Nat} {xs : Nat → Int32} (hL : L ≤ 2048) (C0 : lw_At p s m meth c b L xs) :
    W p l e room_1 s m #[Value.ref b] below meth c s.heap [] 0 0 (lw_Z below #[Value.ref b] s) (entryFrame m ([Value.ref b] : List Value).toArray 4) := by
  obtain ⟨f, h', k', n', hr, hk, hn⟩ := law_end (xs := xs) hL
  exact law_run l C0 (ρ := xs) (fun _ _ => rfl) (fun D dA pre base => law_pre (iv := ivS L xs) ivS_P (ivS_6 (L := L) (xs := xs)).1 (ivS_6 (L := L) (xs := xs)).2 (by have := mrun_mono _ _ _ _ _ _ _ _ _ _ _ _ _ hr; exact this.1) (by have := mrun_mono _ _ _ _ _ _ _ _ _ _ _ _ _ hr; exact this.2) (body_run (iv := ivS L xs) ivS_P hr)) (by decide) hk (Nat.le_trans hn (by decide))
end
