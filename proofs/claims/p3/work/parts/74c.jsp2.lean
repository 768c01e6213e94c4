/-! Nodes of two parts, of three. -/
section
variable {iv : List (Int × Int)} {L : Nat} {h0 : MH} {n : Nat} {s : SM} {t : Term} {a : Int} {A : Option Term} {J : JT} {S : Int → Prop}
/-- the second part -/
theorem ST_b (hn : JSP iv L h0 n) (h : CTX n s t a A J S) {b : Nat} {x y : Term} {w : SM} {a' : Int} {A' : Option Term} {J' : JT} {d : Nat} {F : Int → SM → Prop} (hT1 : ATj s (.add (.add (.index b) x) y)) (hsub : ∃ r, fl t = fl (.add (.add (.index b) x) y) ++ r) (hhd : (b : Int) = hd t) (hdp : dpt y ≤ n) (hst : SJ s t a A S ([] ++ fl x) J' w) (ha : aK w a' A') (hd1 : 3 * n + 45 ≤ d)
    (hgo : ∀ r v, SJ s t a A S (([] ++ fl x) ++ fl y) (jds s y A' J').1 v → kext w v → vks v r → kts v r = (jds s y A' J').2 → F r v) : cm iv L h0 d 88 [vr 307, vi (hd y), vi a'] w (qi F) := by
  obtain ⟨r0, hr0⟩ := hsub
  refine ST_1 hn h.2.1 h.2.2.1 hst hT1 ⟨r0, hr0⟩ hhd (fun v q => List.mem_append_right _ q) (fun _ _ => ?_) hdp ?_ ha hd1 hgo
  · have := (kid1 hT1.1).1
    have e : hd (Term.add (Term.index b) x) = hd t := hhd
    rw [e] at this
    rw [this]
    exact hd_mem x hT1.1.2.1
  · have h5 := h.2.2.2.2
    have := len2 (b := b) (x := x) (y := y)
    rw [hr0, List.length_append] at h5
    push_cast at h5 ⊢
    simp only [List.nil_append]
    omega
/-- the third part -/
theorem ST_c (hn : JSP iv L h0 n) (h : CTX n s t a A J S) {b : Nat} {x y z : Term} {w : SM} {a' : Int} {A' : Option Term} {J' : JT} {d : Nat} {F : Int → SM → Prop} (hT1 : ATj s (.add (.add (.add (.index b) x) y) z)) (hsub : ∃ r, fl t = fl (.add (.add (.add (.index b) x) y) z) ++ r) (hhd : (b : Int) = hd t) (hdp : dpt z ≤ n) (hst : SJ s t a A S (([] ++ fl x) ++ fl y) J' w) (ha : aK w a' A') (hd1 : 3 * n + 45 ≤ d)
    (hgo : ∀ r v, SJ s t a A S ((([] ++ fl x) ++ fl y) ++ fl z) (jds s z A' J').1 v → kext w v → vks v r → kts v r = (jds s z A' J').2 → F r v) : cm iv L h0 d 88 [vr 307, vi (hd z), vi a'] w (qi F) := by
  obtain ⟨r0, hr0⟩ := hsub
  refine ST_1 hn h.2.1 h.2.2.1 hst hT1 ⟨r0, hr0⟩ hhd (fun v q => ?_) (fun _ q => absurd q (by show ¬ ((0 : Int) + 1 + 1 = 1); decide)) hdp ?_ ha hd1 hgo
  · rcases List.mem_append.mp q with q | q
    · exact List.mem_append_left _ (List.mem_append_right _ q)
    · exact List.mem_append_right _ q
  · have h5 := h.2.2.2.2
    have := len3 (b := b) (x := x) (y := y) (z := z)
    rw [hr0, List.length_append] at h5
    push_cast at h5 ⊢
    simp only [List.nil_append, List.length_append]
    omega
theorem dpt2 {b : Nat} {x y : Term} (h : dpt (Term.add (Term.add (Term.index b) x) y) ≤ n + 1) : dpt x ≤ n ∧ dpt y ≤ n := by
  have e : dpt (Term.add (Term.add (Term.index b) x) y) = max (max 1 (dpt x + 1)) (dpt y + 1) := rfl
  omega
theorem dpt3 {b : Nat} {x y z : Term} (h : dpt (Term.add (Term.add (Term.add (Term.index b) x) y) z) ≤ n + 1) : dpt x ≤ n ∧ dpt y ≤ n ∧ dpt z ≤ n := by
  have e : dpt (Term.add (Term.add (Term.add (Term.index b) x) y) z) = max (max (max 1 (dpt x + 1)) (dpt y + 1)) (dpt z + 1) := rfl
  omega
theorem jsp_reck (hn : JSP iv L h0 n) (h : CTX n s t a A J S) (e : s.2 9 (hd t) = 4 ∨ s.2 9 (hd t) = 5 ∨ s.2 9 (hd t) = 6 ∨ s.2 9 (hd t) = 7) : cm iv L h0 (3 * (n + 1) + 45) 88 [vr 307, vi (hd t), vi a] s (qi (POST s t A J S)) := by
  obtain ⟨hA, hf, hnd, htd, hDP⟩ := id h.2.1
  obtain ⟨hKJ, hBO, hJR, hSl⟩ := id h.2.2.1
  have hna : na t = 2 := by rw [hf]; rcases e with e | e | e | e <;> rw [e] <;> rfl
  obtain ⟨b, x, y, rfl⟩ := AT_2 hA hna
  have hbm := hd_mem _ hA
  have hb := (AT_mem _ hA _ hbm).1
  obtain ⟨hdx, hdy⟩ := dpt2 h.1
  have e' : s.2 9 (b : Int) = 4 ∨ s.2 9 (b : Int) = 5 ∨ s.2 9 (b : Int) = 6 ∨ s.2 9 (b : Int) = 7 := e
  refine by_make (M := ((jds s y (some .result) (jds s x (some .result) (jin (hd (Term.add (Term.add (Term.index b) x) y)) A J)).1).1, if s.2 9 b = 7 then .thrown else .result)) h ?_ (fun s0 st => ?_)
  · show jen (s.2 9 b) b A _ = _
    rw [if_neg (by omega), if_neg (by omega), if_neg (by omega)]
    rfl
  · obtain ⟨q9, q10, q11, q12, q13, q14, q2, qK, qx⟩ := ST_same st
    refine mk_4 hb (by rw [q9]; exact e) ?_
    rw [q14, (kid2 hA).1, (kid2 hA).2]
    refine ST_a hn h hA.1 ⟨_, rfl⟩ rfl hdx st (A' := some .result) (k_const qK).2.1 (by omega) (fun r v st1 hx1 hv1 hk1 => ?_)
    obtain ⟨r9, r10, r11, r12, r13, r14, r2, rK, rx⟩ := ST_same st1
    refine ST_b hn h hA ⟨[], by simp⟩ rfl hdy st1 (A' := some .result) (k_const rK).2.1 (by omega) (fun r' u st2 hx2 hv2 hk2 => ?_)
    obtain ⟨u9, u10, u11, u12, u13, u14, u2, uK, ux⟩ := ST_same st2
    rw [u9]
    refine ⟨fun q => ?_, fun q => ?_⟩
    · rw [if_neg (show ¬ s.2 9 (b : Int) = 7 from q)]
      exact MP_0 st2 hnd h.2.2.2.1 hKJ dn2 (by rw [len2]; simp; omega) (JX.rf uK) (by omega) (k_const uK).2.1.1 (k_const uK).2.1.2
    · rw [if_pos (show s.2 9 (b : Int) = 7 from q)]
      exact MP_0 st2 hnd h.2.2.2.1 hKJ dn2 (by rw [len2]; simp; omega) (JX.rf uK) (by omega) (k_const uK).2.2.1 (k_const uK).2.2.2
theorem jsp_let (hn : JSP iv L h0 n) (h : CTX n s t a A J S) (e : s.2 9 (hd t) = 10) : cm iv L h0 (3 * (n + 1) + 45) 88 [vr 307, vi (hd t), vi a] s (qi (POST s t A J S)) := by
  obtain ⟨hA, hf, hnd, htd, hDP⟩ := id h.2.1
  obtain ⟨hKJ, hBO, hJR, hSl⟩ := id h.2.2.1
  have hna : na t = 2 := by rw [hf, e]; rfl
  obtain ⟨b, x, y, rfl⟩ := AT_2 hA hna
  have hbm := hd_mem _ hA
  have hb := (AT_mem _ hA _ hbm).1
  obtain ⟨hdx, hdy⟩ := dpt2 h.1
  have e' : s.2 9 (b : Int) = 10 := e
  refine by_make (M := jds s y A (jds s x none (jin (hd (Term.add (Term.add (Term.index b) x) y)) A J)).1) h ?_ (fun s0 st => ?_)
  · show jen (s.2 9 b) b A _ = _
    rw [if_neg (by omega), if_pos e']
    rfl
  · obtain ⟨q9, q10, q11, q12, q13, q14, q2, qK, qx⟩ := ST_same st
    refine mk_7 hb (by rw [q9]; exact e) ?_
    rw [q14, (kid2 hA).1, (kid2 hA).2]
    refine ST_a hn h hA.1 ⟨_, rfl⟩ rfl hdx st (A' := none) rfl (by omega) (fun r v st1 hx1 hv1 hk1 => ?_)
    obtain ⟨r9, r10, r11, r12, r13, r14, r2, rK, rx⟩ := ST_same st1
    refine ST_b hn h hA ⟨[], by simp⟩ rfl hdy st1 (A' := A) (aK_x rx hKJ h.2.2.2.1) (by omega) (fun r' u st2 hx2 hv2 hk2 => ?_)
    obtain ⟨u9, u10, u11, u12, u13, u14, u2, uK, ux⟩ := ST_same st2
    exact MP_0 st2 hnd h.2.2.2.1 hKJ dn2 (by rw [len2]; simp; omega) (JX.rf uK) (by omega) hv2 hk2
theorem jsp_use (hn : JSP iv L h0 n) (h : CTX n s t a A J S) (e : s.2 9 (hd t) = 9) : cm iv L h0 (3 * (n + 1) + 45) 88 [vr 307, vi (hd t), vi a] s (qi (POST s t A J S)) := by
  obtain ⟨hA, hf, hnd, htd, hDP⟩ := id h.2.1
  obtain ⟨hKJ, hBO, hJR, hSl⟩ := id h.2.2.1
  have hna : na t = 2 := by rw [hf, e]; rfl
  obtain ⟨b, x, y, rfl⟩ := AT_2 hA hna
  have hbm := hd_mem _ hA
  have hb := (AT_mem _ hA _ hbm).1
  obtain ⟨hdx, hdy⟩ := dpt2 h.1
  have e' : s.2 9 (b : Int) = 9 := e
  have hxm := hd_mem x hA.1.2.1
  have hxt : hd x ∈ fl (Term.add (Term.add (Term.index b) x) y) := List.mem_append_left _ (List.mem_append_right _ hxm)
  have hp := (AT_mem _ hA _ hxt).1
  have hnd1 := (List.nodup_append.mp hnd).1
  have hpb : hd x ≠ hd (Term.add (Term.add (Term.index b) x) y) := fun q => (List.nodup_append.mp hnd1).2.2 _ (List.mem_singleton.mpr rfl) _ hxm q.symm
  refine by_make (M := jus (jds s x) (jds s y) (hd x) (jin (hd (Term.add (Term.add (Term.index b) x) y)) A J)) h ?_ (fun s0 st => ?_)
  · show jen (s.2 9 b) b A _ = _
    rw [if_pos e']
    rfl
  · obtain ⟨q9, q10, q11, q12, q13, q14, q2, qK, qx⟩ := ST_same st
    refine mk_6 hb (by rw [q9]; exact e) ?_
    rw [q14, (kid2 hA).1, (kid2 hA).2]
    refine B91 (ST_a hn h hA.1 ⟨_, rfl⟩ rfl hdx st (A' := none) rfl (by omega) (fun r v st1 hx1 hv1 hk1 => ?_))
    obtain ⟨r9, r10, r11, r12, r13, r14, r2, rK, rx⟩ := ST_same st1
    have rl := hv1.lt rK.1.1.2 rK.2.1
    generalize hj : jds s x none (jin (hd (Term.add (Term.add (Term.index b) x) y)) A J) = jj at *
    -- the second part asked for UNKNOWN
    have unk : ∀ (J2 : JT) (v2 : SM), SJ s (Term.add (Term.add (Term.index b) x) y) a A S ([] ++ fl x) J2 v2 → jus (jds s x) (jds s y) (hd x) (jin (hd (Term.add (Term.add (Term.index b) x) y)) A J) = ((jds s y (some .null) J2).1, .null) → cm iv L h0 (3 * n + 45) 88 [vr 307, vi (hd y), vi 0] v2 (qi fun _ w => MPOST s (Term.add (Term.add (Term.index b) x) y) A (jus (jds s x) (jds s y) (hd x) (jin (hd (Term.add (Term.add (Term.index b) x) y)) A J)) S 0 w) := fun J2 v2 st2 hM => by
      refine ST_b hn h hA ⟨[], by simp⟩ rfl hdy st2 (A' := some .null) (k_const (ST_same st2).2.2.2.2.2.2.2.1).1 (Nat.le_refl _) (fun r' u st3 hx3 hv3 hk3 => ?_)
      obtain ⟨u9, u10, u11, u12, u13, u14, u2, uK, ux⟩ := ST_same st3
      rw [hM]
      exact MP_0 st3 hnd h.2.2.2.1 hKJ dn2 (by rw [len2]; simp; omega) (JX.rf uK) (by omega) (k_const uK).1.1 (k_const uK).1.2
    have other : ∀ w', (v.2 21 (hd x) = 0 ∧ w' = ua v 21 (hd x) 2) ∨ (v.2 21 (hd x) ≠ 0 ∧ (w' = v ∨ w' = ua v 21 (hd x) (v.2 21 (hd x)))) → kts v r ≠ .null → (∀ p q, kts v r ≠ .add p q) → cm iv L h0 (3 * n + 45) 88 [vr 307, vi (hd y), vi 0] w' (qi fun _ w => MPOST s (Term.add (Term.add (Term.index b) x) y) A (jus (jds s x) (jds s y) (hd x) (jin (hd (Term.add (Term.add (Term.index b) x) y)) A J)) S 0 w) := fun w' hw hn0 hnm => by
      obtain ⟨st2, vx⟩ := ST_n (z := 2) st1 hxm hxt hpb ⟨by omega, by omega⟩ hw
      refine unk _ w' st2 ?_
      unfold jus
      rw [hj]
      rw [hk1] at hn0 hnm
      cases h2 : jj.2 with
      | null => exact absurd h2 hn0
      | add p q => exact absurd h2 (hnm p q)
      | _ => rfl
    have rb := st1.2.2.2.2
    have h5 := h.2.2.2.2
    rw [len2] at h5
    rw [List.nil_append] at rb
    have hM0 := (k_const rK).1.2
    rcases kt_cases rK hv1 with ⟨k4, kr, kk⟩ | ⟨k4, kk⟩ | ⟨k4, kk⟩ | ⟨k4, kk, va, vb⟩ | ⟨k4, kk, va, vb⟩
    · refine ⟨fun _ => ⟨fun _ => unk jj.1 v st1 ?_, fun q => absurd kr q⟩, fun q => absurd kr q⟩
      unfold jus
      rw [hj]
      rw [hk1] at kk
      rw [kk]
    · have hr0 : r ≠ 0 := fun q => by rw [q, hM0] at kk; cases kk
      exact ⟨fun q => absurd q hr0, fun _ => ⟨by omega, fun _ => ⟨fun q => absurd q hr0, fun _ => ⟨hp, fun q => other v (Or.inr ⟨q, Or.inl rfl⟩) (by rw [kk]; intro c; cases c) (by rw [kk]; intro p q c; cases c), fun q => other _ (Or.inl ⟨q, rfl⟩) (by rw [kk]; intro c; cases c) (by rw [kk]; intro p q c; cases c)⟩⟩, fun q => by omega⟩⟩
    · have hr0 : r ≠ 0 := fun q => by rw [q, hM0] at kk; cases kk
      exact ⟨fun q => absurd q hr0, fun _ => ⟨by omega, fun _ => ⟨fun q => absurd q hr0, fun _ => ⟨hp, fun q => other v (Or.inr ⟨q, Or.inl rfl⟩) (by rw [kk]; intro c; cases c) (by rw [kk]; intro p q c; cases c), fun q => other _ (Or.inl ⟨q, rfl⟩) (by rw [kk]; intro c; cases c) (by rw [kk]; intro p q c; cases c)⟩⟩, fun q => by omega⟩⟩
    · have hr0 : r ≠ 0 := fun q => by rw [q, hM0] at kk; cases kk
      refine ⟨fun q => absurd q hr0, fun _ => ⟨by omega, fun q => absurd k4 q, fun _ => ST_b hn h hA ⟨[], by simp⟩ rfl hdy st1 (A' := some (kts v (v.2 5 r))) ⟨va, rfl⟩ (Nat.le_refl _) (fun r' u st2 hx2 hv2 hk2 => ?_)⟩⟩
      obtain ⟨u9, u10, u11, u12, u13, u14, u2, uK, ux⟩ := ST_same st2
      have hM : jus (jds s x) (jds s y) (hd x) (jin (hd (Term.add (Term.add (Term.index b) x) y)) A J) = ((jds s y (some (kts v (v.2 5 r))) jj.1).1, kts v (v.2 6 r)) := by
        unfold jus
        rw [hj]
        rw [hk1] at kk
        rw [kk]
      rw [hM, (hx2.2.2 r rl.2).2.2.1]
      exact MP_0 st2 hnd h.2.2.2.1 hKJ dn2 (by rw [len2]; simp; omega) (JX.rf uK) (by omega) (kext_vk hx2 vb) (kext_kt hx2 rK vb)
    · have hr0 : r ≠ 0 := fun q => by rw [q, hM0] at kk; cases kk
      exact ⟨fun q => absurd q hr0, fun _ => ⟨by omega, fun _ => ⟨fun q => absurd q hr0, fun _ => ⟨hp, fun q => other v (Or.inr ⟨q, Or.inl rfl⟩) (by rw [kk]; intro c; cases c) (by rw [kk]; intro p q c; cases c), fun q => other _ (Or.inl ⟨q, rfl⟩) (by rw [kk]; intro c; cases c) (by rw [kk]; intro p q c; cases c)⟩⟩, fun q => by omega⟩⟩
end
