/-! The reference judges as the function tells. -/
theorem k_const {s : SM} (h : KJs s) : (vks s 0 ∧ kts s 0 = .null) ∧ (vks s 1 ∧ kts s 1 = .result) ∧ (vks s 2 ∧ kts s 2 = .thrown) := by
  have hn := h.1.1
  have e0 := (h.1.2.1 0 (by omega) (by omega)).1
  have e1 := (h.1.2.1 1 (by omega) (by omega)).1
  have e2 := (h.1.2.1 2 (by omega) (by omega)).1
  exact ⟨⟨Or.inl ⟨by omega, by omega⟩, (kt_leaf h).1 e0⟩, ⟨Or.inl ⟨by omega, by omega⟩, (kt_leaf h).2.1 e1⟩, ⟨Or.inl ⟨by omega, by omega⟩, (kt_leaf h).2.2 e2⟩⟩
theorem kt_cases {s : SM} (h : KJs s) {k : Int} (hk : vks s k) : (s.2 4 k = 0 ∧ k = 0 ∧ kts s k = .null) ∨ (s.2 4 k = 1 ∧ kts s k = .result) ∨ (s.2 4 k = 2 ∧ kts s k = .thrown) ∨ (s.2 4 k = 3 ∧ kts s k = .add (kts s (s.2 5 k)) (kts s (s.2 6 k)) ∧ vks s (s.2 5 k) ∧ vks s (s.2 6 k)) ∨ (s.2 4 k = 4 ∧ kts s k = .mul (kts s (s.2 5 k)) (kts s (s.2 6 k)) ∧ vks s (s.2 5 k) ∧ vks s (s.2 6 k)) := by
  have ha := h.at hk
  have hl := kt_leaf h (k := k)
  have hn := kt_node h hk
  have hkl := hk.lt h.1.1.2 h.2.1
  rcases (show s.2 4 k = 0 ∨ s.2 4 k = 1 ∨ s.2 4 k = 2 ∨ s.2 4 k = 3 ∨ s.2 4 k = 4 by omega) with e | e | e | e | e
  · exact Or.inl ⟨e, by have := (ha.2.2.1 (by omega)).1; omega, hl.1 e⟩
  · exact Or.inr (Or.inl ⟨e, hl.2.1 e⟩)
  · exact Or.inr (Or.inr (Or.inl ⟨e, hl.2.2 e⟩))
  · obtain ⟨k3, va, vb, -⟩ := ha.2.2.2 (by omega)
    exact Or.inr (Or.inr (Or.inr (Or.inl ⟨e, hn.1 e, va.up (by omega), vb.up (by omega)⟩)))
  · obtain ⟨k3, va, vb, -⟩ := ha.2.2.2 (by omega)
    exact Or.inr (Or.inr (Or.inr (Or.inr ⟨e, hn.2 e, va.up (by omega), vb.up (by omega)⟩)))
def CTX (n : Nat) (s : SM) (t : Term) (a : Int) (A : Option Term) (J : JT) (S : Int → Prop) : Prop := dpt t ≤ n + 1 ∧ PRT s t ∧ PRJ s (hd t) (fl t) J S ∧ aK s a A ∧ s.1 3 + 41 * (fl t).length ≤ 6000
section
variable {iv : List (Int × Int)} {L : Nat} {h0 : MH} {n : Nat} {s : SM} {t : Term} {a : Int} {A : Option Term} {J : JT} {S : Int → Prop}
theorem by_make {M : JT × Term} (h : CTX n s t a A J S) (hM : jds s t A J = jen (s.2 9 (hd t)) (hd t) A M) (hmk : ∀ s0, SJ s t a A S [] (jin (hd t) A J) s0 → cm iv L h0 (3 * n + 47) 89 [vr 307, vi (hd t), vi a] s0 (qi (MPOST s t A M S))) : cm iv L h0 (3 * (n + 1) + 45) 88 [vr 307, vi (hd t), vi a] s (qi (POST s t A J S)) := by
  obtain ⟨h1, h2, h3, h4, h5⟩ := h
  exact judge_of_make (n := 3 * n + 3) h2 h3 h4 hM h5 (hmk _ (ST_0 h2 h3))
/-- what stays while parts are judged -/
theorem ST_same {dn : List Int} {J' : JT} {w : SM} (h : SJ s t a A S dn J' w) : w.2 9 = s.2 9 ∧ w.2 10 = s.2 10 ∧ w.2 11 = s.2 11 ∧ w.2 12 = s.2 12 ∧ w.2 13 = s.2 13 ∧ w.2 14 = s.2 14 ∧ w.1 2 = s.1 2 ∧ KJs w ∧ kext s w := ⟨h.1.1.2 9 (by decide), h.1.1.2 10 (by decide), h.1.1.2 11 (by decide), h.1.1.2 12 (by decide), h.1.1.2 13 (by decide), h.1.1.2 14 (by decide), h.1.1.1 2 (by decide), h.1.2.1, h.1.2.2.1⟩
theorem jsp_leaf (h : CTX n s t a A J S) (h3 : s.2 9 (hd t) = 0 ∨ s.2 9 (hd t) = 1 ∨ s.2 9 (hd t) = 2) : cm iv L h0 (3 * (n + 1) + 45) 88 [vr 307, vi (hd t), vi a] s (qi (POST s t A J S)) := by
  obtain ⟨hA, hf, hnd, htd, hDP⟩ := id h.2.1
  have hna : na t = 0 := by
    rw [hf]
    rcases h3 with e | e | e <;> rw [e] <;> rfl
  obtain ⟨b, rfl⟩ := AT_0 hA hna
  have hb := (AT_mem _ hA _ (hd_mem _ hA)).1
  have hdn : ∀ x, x ∈ fl (Term.index b) → x ≠ hd (Term.index b) → x ∈ ([] : List Int) := fun x hx hn => absurd (List.mem_singleton.mp hx) hn
  rcases h3 with e | e | e
  · refine by_make (M := (jin (hd (Term.index b)) A J, .null)) h ?_ (fun s0 st => ?_)
    · have e : s.2 9 (b : Int) = 0 := e
      show jen (s.2 9 b) b A _ = _
      rw [if_pos e]
      rfl
    · obtain ⟨q9, -, -, -, -, -, -, qK, -⟩ := ST_same st
      refine mk_0 hb (by rw [q9]; exact e) ?_
      exact MP_0 st hnd h.2.2.2.1 h.2.2.1.1 hdn (Nat.le_refl 1) (JX.rf qK) (by omega) (k_const qK).1.1 (k_const qK).1.2
  · refine by_make (M := (jin (hd (Term.index b)) A J, .result)) h ?_ (fun s0 st => ?_)
    · have e : s.2 9 (b : Int) = 1 := e
      show jen (s.2 9 b) b A _ = _
      rw [if_neg (by omega), if_pos e]
      rfl
    · obtain ⟨q9, -, -, -, -, -, -, qK, -⟩ := ST_same st
      refine mk_1 hb (by rw [q9]; exact e) ?_
      exact MP_0 st hnd h.2.2.2.1 h.2.2.1.1 hdn (Nat.le_refl 1) (JX.rf qK) (by omega) (k_const qK).2.1.1 (k_const qK).2.1.2
  · refine by_make (M := (jin (hd (Term.index b)) A J, .thrown)) h ?_ (fun s0 st => ?_)
    · have e : s.2 9 (b : Int) = 2 := e
      show jen (s.2 9 b) b A _ = _
      rw [if_neg (by omega), if_neg (by omega), if_pos e]
      rfl
    · obtain ⟨q9, -, -, -, -, -, -, qK, -⟩ := ST_same st
      refine mk_2 hb (by rw [q9]; exact e) ?_
      exact MP_0 st hnd h.2.2.2.1 h.2.2.1.1 hdn (Nat.le_refl 1) (JX.rf qK) (by omega) (k_const qK).2.2.1 (k_const qK).2.2.2
theorem jsp_name (h : CTX n s t a A J S) (e : s.2 9 (hd t) = 3) : cm iv L h0 (3 * (n + 1) + 45) 88 [vr 307, vi (hd t), vi a] s (qi (POST s t A J S)) := by
  obtain ⟨hA, hf, hnd, htd, hDP⟩ := id h.2.1
  obtain ⟨hKJ, hBO, hJR, hSl⟩ := id h.2.2.1
  have hna : na t = 0 := by rw [hf, e]; rfl
  obtain ⟨b, rfl⟩ := AT_0 hA hna
  have hbm := hd_mem _ hA
  have hb := (AT_mem _ hA _ hbm).1
  have hdn : ∀ x, x ∈ fl (Term.index b) → x ≠ hd (Term.index b) → x ∈ ([] : List Int) := fun x hx hn => absurd (List.mem_singleton.mp hx) hn
  refine by_make (M := jnm (s.2 9) (s.2 11) (s.2 14) (kks s) (bds s b (s.2 10 b)) b (jin (hd (Term.index b)) A J)) h ?_ (fun s0 st => ?_)
  · have e : s.2 9 (b : Int) = 3 := e
    show jen (s.2 9 b) b A _ = _
    rw [if_neg (by omega), if_neg (by omega), if_neg (by omega)]
    rfl
  · obtain ⟨q9, q10, q11, q12, q13, q14, q2, qK, qx⟩ := ST_same st
    refine mk_3 hb (by rw [q9]; exact e) (binderOf_ok (n := 70) hb (by rw [q12]; exact hDP _ hbm) ?_)
    rw [q9, q10, q12, q13]
    have hbo := hBO (s.2 10 (hd (Term.index b)))
    generalize hu : bnd (s.2 9) (s.2 10) (s.2 12) (s.2 13) 70 (hd (Term.index b)) (s.2 10 (hd (Term.index b))) = u
    have hu2 : bds s (hd (Term.index b)) (s.2 10 (hd (Term.index b))) = u := hu
    have hu3 : bds s b (s.2 10 b) = u := hu
    rw [hu2] at hbo
    rw [hu3]
    refine ⟨fun hn => ?_, fun hn => ?_⟩
    · obtain ⟨h1, h2⟩ := hbo.resolve_left hn
      refine ⟨h1, fun e8 => ?_, fun e8 => ?_⟩
      · obtain ⟨e10, hSp, hp1, hp2⟩ := h2.resolve_left (fun q => e8 q.1)
        rw [q14]
        refine ⟨by omega, by omega, seenAs_ok ⟨hp1, hp2⟩ ?_⟩
        obtain ⟨⟨a1, a2⟩, a3, a4⟩ := st.2.1 _ (Or.inl hSp)
        have hM : jnm (s.2 9) (s.2 11) (s.2 14) (kks s) u b (jin (hd (Term.index b)) A J) = (jin (hd (Term.index b)) A J, jsee (jin (hd (Term.index b)) A J) (s.2 14 (3 * u))) := by
          unfold jnm
          rw [if_neg hn, if_neg e8]
        rw [hM]
        have key : vks s0 (if 0 < s0.2 21 (s.2 14 (3 * u)) then 0 else s0.2 19 (s.2 14 (3 * u))) ∧ kts s0 (if 0 < s0.2 21 (s.2 14 (3 * u)) then 0 else s0.2 19 (s.2 14 (3 * u))) = jsee (jin (hd (Term.index b)) A J) (s.2 14 (3 * u)) := by
          unfold jsee
          rw [a4.1]
          by_cases hp : 0 < (jin (hd (Term.index b)) A J).2.2 (s.2 14 (3 * u))
          · rw [if_pos hp, if_pos hp]
            exact (k_const qK).1
          · rw [if_neg hp, if_neg hp]
            exact ⟨a1, a2⟩
        exact MP_0 st hnd h.2.2.2.1 hKJ hdn (Nat.le_refl 1) (JX.rf qK) (by omega) key.1 key.2
      · obtain ⟨-, t1, t2⟩ := h2.resolve_right (fun q => by omega)
        have hM : jnm (s.2 9) (s.2 11) (s.2 14) (kks s) u b (jin (hd (Term.index b)) A J) = (jin (hd (Term.index b)) A J, kks s (s.2 11 u)) := by
          unfold jnm
          rw [if_neg hn, if_pos e8]
        rw [hM, q11]
        have hv : vks s (s.2 11 u) := Or.inl ⟨t1, t2⟩
        exact MP_0 st hnd h.2.2.2.1 hKJ hdn (Nat.le_refl 1) (JX.rf qK) (by omega) (kext_vk qx hv) (by rw [kext_kt qx hKJ hv, kks_told ⟨t1, t2⟩])
    · have hM : jnm (s.2 9) (s.2 11) (s.2 14) (kks s) u b (jin (hd (Term.index b)) A J) = (jsr (jin (hd (Term.index b)) A J) (hd (Term.index b)) 1, .null) := by
        unfold jnm
        rw [if_pos hn]
        rfl
      rw [hM]
      have qK' : KJs (ua s0 21 (hd (Term.index b)) 1) := qK
      exact MP_r st hnd h.2.2.2.1 hKJ hSl hbm (by simp) ⟨by omega, by omega⟩ hdn (Nat.le_refl 1) (JX.rf qK') (by show s0.1 3 ≤ s0.1 3 + 41; omega) (k_const qK').1.1 (k_const qK').1.2
/-- one part, two parts, three: what the rows say of them -/
theorem kid1 {b : Nat} {x : Term} (h : ATj s (.add (.index b) x)) : s.2 14 (3 * hd (Term.add (Term.index b) x)) = hd x ∧ ATj s x := by
  have h5 : s.2 14 (3 * hd (Term.index b) + na (Term.index b)) = hd x := h.2.2.2.2.1
  rw [show na (Term.index b) = 0 from rfl, Int.add_zero] at h5
  exact ⟨h5, h.2.1⟩
theorem kid2 {b : Nat} {x y : Term} (h : ATj s (.add (.add (.index b) x) y)) : s.2 14 (3 * hd (Term.add (Term.add (Term.index b) x) y)) = hd x ∧ s.2 14 (3 * hd (Term.add (Term.add (Term.index b) x) y) + 1) = hd y := by
  have h5 : s.2 14 (3 * hd (Term.add (Term.index b) x) + na (Term.add (Term.index b) x)) = hd y := h.2.2.2.2.1
  exact ⟨(kid1 h.1).1, h5⟩
theorem kid3 {b : Nat} {x y z : Term} (h : ATj s (.add (.add (.add (.index b) x) y) z)) : s.2 14 (3 * hd (Term.add (Term.add (Term.add (Term.index b) x) y) z)) = hd x ∧ s.2 14 (3 * hd (Term.add (Term.add (Term.add (Term.index b) x) y) z) + 1) = hd y ∧ s.2 14 (3 * hd (Term.add (Term.add (Term.add (Term.index b) x) y) z) + 2) = hd z := by
  have h5 : s.2 14 (3 * hd (Term.add (Term.add (Term.index b) x) y) + na (Term.add (Term.add (Term.index b) x) y)) = hd z := h.2.2.2.2.1
  exact ⟨(kid2 h.1).1, (kid2 h.1).2, h5⟩
theorem len1 {b : Nat} {x : Term} : (fl (Term.add (Term.index b) x)).length = 1 + (fl x).length := by show ([(b : Int)] ++ fl x).length = _; simp; omega
theorem len2 {b : Nat} {x y : Term} : (fl (Term.add (Term.add (Term.index b) x) y)).length = 1 + (fl x).length + (fl y).length := by show (([(b : Int)] ++ fl x) ++ fl y).length = _; simp; omega
theorem len3 {b : Nat} {x y z : Term} : (fl (Term.add (Term.add (Term.add (Term.index b) x) y) z)).length = 1 + (fl x).length + (fl y).length + (fl z).length := by show ((([(b : Int)] ++ fl x) ++ fl y) ++ fl z).length = _; simp; omega
theorem dn1 {b : Nat} {x : Term} : ∀ v, v ∈ fl (Term.add (Term.index b) x) → v ≠ hd (Term.add (Term.index b) x) → v ∈ [] ++ fl x := fun v hv hn => by
  rcases List.mem_append.mp hv with q | q
  · exact absurd (List.mem_singleton.mp q) hn
  · exact q
theorem dn2 {b : Nat} {x y : Term} : ∀ v, v ∈ fl (Term.add (Term.add (Term.index b) x) y) → v ≠ hd (Term.add (Term.add (Term.index b) x) y) → v ∈ ([] ++ fl x) ++ fl y := fun v hv hn => by
  rcases List.mem_append.mp hv with q | q
  · exact List.mem_append_left _ (dn1 v q hn)
  · exact List.mem_append_right _ q
theorem dn3 {b : Nat} {x y z : Term} : ∀ v, v ∈ fl (Term.add (Term.add (Term.add (Term.index b) x) y) z) → v ≠ hd (Term.add (Term.add (Term.add (Term.index b) x) y) z) → v ∈ (([] ++ fl x) ++ fl y) ++ fl z := fun v hv hn => by
  rcases List.mem_append.mp hv with q | q
  · exact List.mem_append_left _ (dn2 v q hn)
  · exact List.mem_append_right _ q
/-- the first part of any -/
theorem ST_a (hn : JSP iv L h0 n) (h : CTX n s t a A J S) {b : Nat} {x : Term} {w : SM} {a' : Int} {A' : Option Term} {J' : JT} {d : Nat} {F : Int → SM → Prop} (hT1 : ATj s (.add (.index b) x)) (hsub : ∃ r, fl t = fl (.add (.index b) x) ++ r) (hhd : (b : Int) = hd t) (hdp : dpt x ≤ n) (hst : SJ s t a A S [] J' w) (ha : aK w a' A') (hd1 : 3 * n + 45 ≤ d)
    (hgo : ∀ r v, SJ s t a A S ([] ++ fl x) (jds s x A' J').1 v → kext w v → vks v r → kts v r = (jds s x A' J').2 → F r v) : cm iv L h0 d 88 [vr 307, vi (hd x), vi a'] w (qi F) := by
  obtain ⟨r0, hr0⟩ := hsub
  refine ST_1 hn h.2.1 h.2.2.1 hst hT1 ⟨r0, hr0⟩ hhd (fun x q => by cases q) (fun _ q => absurd q (by show ¬ ((0 : Int) = 1); decide)) hdp ?_ ha hd1 hgo
  have h5 := h.2.2.2.2
  have := len1 (b := b) (x := x)
  rw [hr0, List.length_append] at h5
  push_cast at h5 ⊢
  simp only [List.length_nil]
  omega
theorem jsp_told (hn : JSP iv L h0 n) (h : CTX n s t a A J S) (e : s.2 9 (hd t) = 15) : cm iv L h0 (3 * (n + 1) + 45) 88 [vr 307, vi (hd t), vi a] s (qi (POST s t A J S)) := by
  obtain ⟨hA, hf, hnd, htd, hDP⟩ := id h.2.1
  obtain ⟨hKJ, hBO, hJR, hSl⟩ := id h.2.2.1
  have hna : na t = 1 := by rw [hf, e]; rfl
  obtain ⟨b, x, rfl⟩ := AT_1 hA hna
  have hbm := hd_mem _ hA
  have hb := (AT_mem _ hA _ hbm).1
  have hdx : dpt x ≤ n := by have := h.1; have e : dpt (Term.add (Term.index b) x) = max 1 (dpt x + 1) := rfl; omega
  have htt := htd _ hbm (Or.inr e)
  have e' : s.2 9 (b : Int) = 15 := e
  refine by_make (M := ((jds s x (some (kks s (s.2 11 b))) (jin (hd (Term.add (Term.index b) x)) A J)).1, kks s (s.2 11 b))) h ?_ (fun s0 st => ?_)
  · show jen (s.2 9 b) b A _ = _
    rw [if_neg (by omega), if_pos e']
    rfl
  · obtain ⟨q9, q10, q11, q12, q13, q14, q2, qK, qx⟩ := ST_same st
    have hv : vks s (s.2 11 (hd (Term.add (Term.index b) x))) := Or.inl htt
    refine mk_11 hb (by rw [q9]; exact e) ?_
    rw [q14, (kid1 hA).1, q11]
    refine ST_a hn h hA ⟨[], by simp⟩ rfl hdx st (A' := some (kks s (s.2 11 b))) ⟨kext_vk qx hv, by rw [kext_kt qx hKJ hv]; exact (kks_told htt).symm⟩ (by omega) (fun r v st1 hx1 hv1 hk1 => ?_)
    obtain ⟨r9, r10, r11, r12, r13, r14, r2, rK, rx⟩ := ST_same st1
    rw [r11]
    exact MP_0 st1 hnd h.2.2.2.1 hKJ dn1 (by rw [len1]; simp; omega) (JX.rf rK) (by omega) (kext_vk rx hv) (by rw [kext_kt rx hKJ hv]; exact (kks_told htt).symm)
theorem jsp_half (hn : JSP iv L h0 n) (h : CTX n s t a A J S) (e : s.2 9 (hd t) = 13 ∨ s.2 9 (hd t) = 14) : cm iv L h0 (3 * (n + 1) + 45) 88 [vr 307, vi (hd t), vi a] s (qi (POST s t A J S)) := by
  obtain ⟨hA, hf, hnd, htd, hDP⟩ := id h.2.1
  obtain ⟨hKJ, hBO, hJR, hSl⟩ := id h.2.2.1
  have hna : na t = 1 := by rw [hf]; rcases e with e | e <;> rw [e] <;> rfl
  obtain ⟨b, x, rfl⟩ := AT_1 hA hna
  have hbm := hd_mem _ hA
  have hb := (AT_mem _ hA _ hbm).1
  have hdx : dpt x ≤ n := by have := h.1; have e : dpt (Term.add (Term.index b) x) = max 1 (dpt x + 1) := rfl; omega
  have e' : s.2 9 (b : Int) = 13 ∨ s.2 9 (b : Int) = 14 := e
  have hxm := hd_mem x hA.2.1
  have hxt : hd x ∈ fl (Term.add (Term.index b) x) := List.mem_append_right _ hxm
  have hp := (AT_mem _ hA _ hxt).1
  have hpb : hd x ≠ hd (Term.add (Term.index b) x) := fun q => (List.nodup_append.mp hnd).2.2 _ (List.mem_singleton.mpr rfl) _ hxm q.symm
  refine by_make (M := jhf (jds s x) (hd x) (s.2 9 b) (jin (hd (Term.add (Term.index b) x)) A J)) h ?_ (fun s0 st => ?_)
  · show jen (s.2 9 b) b A _ = _
    rw [if_neg (by omega), if_neg (by omega)]
    rfl
  · obtain ⟨q9, q10, q11, q12, q13, q14, q2, qK, qx⟩ := ST_same st
    refine mk_10 hb (by rw [q9]; omega) ?_
    rw [q14, (kid1 hA).1]
    refine ST_a hn h hA ⟨[], by simp⟩ rfl hdx st (A' := none) rfl (by omega) (fun r v st1 hx1 hv1 hk1 => ?_)
    obtain ⟨r9, r10, r11, r12, r13, r14, r2, rK, rx⟩ := ST_same st1
    have rl := hv1.lt rK.1.1.2 rK.2.1
    have rb := st1.2.2.2.2
    have h5 := h.2.2.2.2
    rw [len1] at h5
    rw [List.nil_append] at rb
    have hst0 := st1
    rw [r9]
    generalize hj : jds s x none (jin (hd (Term.add (Term.index b) x)) A J) = jj at *
    have fin : ∀ (m : Term) (J2 : JT) (r2 : Int) (v2 : SM), SJ s (Term.add (Term.index b) x) a A S ([] ++ fl x) J2 v2 → v2.1 3 ≤ v.1 3 → jhf (jds s x) (hd x) (s.2 9 b) (jin (hd (Term.add (Term.index b) x)) A J) = (J2, m) → vks v2 r2 → kts v2 r2 = m → MPOST s (Term.add (Term.index b) x) A (jhf (jds s x) (hd x) (s.2 9 b) (jin (hd (Term.add (Term.index b) x)) A J)) S r2 v2 := fun m J2 r2 v2 st2 hb2 hM hv2 hk2 => by
      rw [hM]
      exact MP_0 st2 hnd h.2.2.2.1 hKJ dn1 (by rw [len1]; simp; omega) (JX.rf (ST_same st2).2.2.2.2.2.2.2.1) (by omega) hv2 hk2
    have other : ∀ w', (v.2 21 (hd x) = 0 ∧ w' = ua v 21 (hd x) 3) ∨ (v.2 21 (hd x) ≠ 0 ∧ (w' = v ∨ w' = ua v 21 (hd x) (v.2 21 (hd x)))) → kts v r ≠ .null → (∀ p q, kts v r ≠ .mul p q) → MPOST s (Term.add (Term.index b) x) A (jhf (jds s x) (hd x) (s.2 9 b) (jin (hd (Term.add (Term.index b) x)) A J)) S 0 w' := fun w' hw hn0 hnm => by
      obtain ⟨st2, vx⟩ := ST_n (z := 3) hst0 hxm hxt hpb ⟨by omega, by omega⟩ hw
      refine fin .null _ 0 w' st2 (by rcases hw with ⟨-, rfl⟩ | ⟨-, rfl | rfl⟩ <;> exact Int.le_refl _) ?_ (k_const (ST_same st2).2.2.2.2.2.2.2.1).1.1 (k_const (ST_same st2).2.2.2.2.2.2.2.1).1.2
      unfold jhf
      rw [hj]
      rw [hk1] at hn0 hnm
      cases h2 : jj.2 with
      | null => exact absurd h2 hn0
      | mul p q => exact absurd h2 (hnm p q)
      | _ => rfl
    rcases kt_cases rK hv1 with ⟨k4, kr, kk⟩ | ⟨k4, kk⟩ | ⟨k4, kk⟩ | ⟨k4, kk, va, vb⟩ | ⟨k4, kk, va, vb⟩
    · refine ⟨fun q => absurd kr q, fun _ => fin .null jj.1 0 v hst0 (Int.le_refl _) ?_ (k_const rK).1.1 (k_const rK).1.2⟩
      unfold jhf
      rw [hj]
      rw [hk1] at kk
      rw [kk]
    · refine ⟨fun _ => ⟨by omega, fun _ => ⟨hp, fun q => other _ (Or.inr ⟨q, Or.inr rfl⟩) (by rw [kk]; intro c; cases c) (by rw [kk]; intro p q c; cases c), fun q => other _ (Or.inl ⟨q, rfl⟩) (by rw [kk]; intro c; cases c) (by rw [kk]; intro p q c; cases c)⟩, fun q => by omega⟩, fun q => ?_⟩
      have := (k_const rK).1.2
      rw [q, this] at kk
      cases kk
    · refine ⟨fun _ => ⟨by omega, fun _ => ⟨hp, fun q => other _ (Or.inr ⟨q, Or.inr rfl⟩) (by rw [kk]; intro c; cases c) (by rw [kk]; intro p q c; cases c), fun q => other _ (Or.inl ⟨q, rfl⟩) (by rw [kk]; intro c; cases c) (by rw [kk]; intro p q c; cases c)⟩, fun q => by omega⟩, fun q => ?_⟩
      have := (k_const rK).1.2
      rw [q, this] at kk
      cases kk
    · refine ⟨fun _ => ⟨by omega, fun _ => ⟨hp, fun q => other _ (Or.inr ⟨q, Or.inr rfl⟩) (by rw [kk]; intro c; cases c) (by rw [kk]; intro p q c; cases c), fun q => other _ (Or.inl ⟨q, rfl⟩) (by rw [kk]; intro c; cases c) (by rw [kk]; intro p q c; cases c)⟩, fun q => by omega⟩, fun q => ?_⟩
      have := (k_const rK).1.2
      rw [q, this] at kk
      cases kk
    · have hM : jhf (jds s x) (hd x) (s.2 9 b) (jin (hd (Term.add (Term.index b) x)) A J) = (jj.1, if s.2 9 b = 13 then kts v (v.2 5 r) else kts v (v.2 6 r)) := by
        unfold jhf
        rw [hj]
        rw [hk1] at kk
        rw [kk]
      refine ⟨fun _ => ⟨by omega, fun q => absurd k4 q, fun _ => ⟨fun q => ?_, fun q => ?_⟩⟩, fun q => ?_⟩
      · exact fin _ jj.1 _ v hst0 (Int.le_refl _) hM vb (by rw [if_neg (show ¬ s.2 9 (b : Int) = 13 from q)])
      · exact fin _ jj.1 _ v hst0 (Int.le_refl _) hM va (by rw [if_pos (show s.2 9 (b : Int) = 13 from q)])
      · have := (k_const rK).1.2
        rw [q, this] at kk
        cases kk
end
