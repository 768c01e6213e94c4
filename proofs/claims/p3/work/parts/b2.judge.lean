/-! The desk judges as the function tells: most sorts. -/
def CTXd (Tn : Int → Prop) (ρ : Int → Option Int) (n : Nat) (s : SM) (t : Term) (a : Int) (A : Option Term) (J : JT) (S : Int → Prop) : Prop := dpt t ≤ n + 1 ∧ PRT s t ∧ PRJ s (hd t) (fl t) J S ∧ aK s a A ∧ s.1 3 + 20 * (fl t).length ≤ 1440 ∧ HTd Tn ρ t S
section
variable {iv : List (Int × Int)} {L : Nat} {h0 : MH} {Ad : Int → Nat} {Tn : Int → Prop} {ρ : Int → Option Int} {k : Nat} {n : Nat} {s : SM} {t : Term} {a : Int} {A : Option Term} {J : JT} {S : Int → Prop}
theorem HTm (h : CTXd Tn ρ n s t a A J S) : Tn (hd t) := h.2.2.2.2.2.1 _ (hd_mem t h.2.1.1)
theorem HTr (h : CTXd Tn ρ n s t a A J S) : ρ (hd t) = none := by
  cases e : ρ (hd t) with
  | none => rfl
  | some z => exact absurd (hd_mem t h.2.1.1) (h.2.2.2.2.2.2 (hd t) (by rw [e]; intro c; cases c)).1
theorem HTp (h : CTXd Tn ρ n s t a A J S) {y : Term} {dn : List Int} (hy : ∀ x, x ∈ fl y → x ∈ fl t) (hdn : ∀ x, x ∈ dn → x ∈ fl t) : (∀ x, x ∈ fl y → Tn x) ∧ ∀ x, ρ x ≠ none → x ∉ fl y ∧ ¬ (S x ∨ x ∈ dn) := ⟨fun x hx => h.2.2.2.2.2.1 x (hy x hx), fun x q => ⟨fun w => (h.2.2.2.2.2.2 x q).1 (hy x w), fun w => w.elim (h.2.2.2.2.2.2 x q).2 (fun w => (h.2.2.2.2.2.2 x q).1 (hdn x w))⟩⟩
/-- a reason may be given to a part that was judged -/
theorem HTq (h : CTXd Tn ρ n s t a A J S) {x : Int} (hx : x ∈ fl t) : ρ x = none := by
  cases e : ρ x with
  | none => rfl
  | some z => exact absurd hx (h.2.2.2.2.2.2 x (by rw [e]; intro c; cases c)).1
theorem by_maked {M : JT × Term} (h : CTXd Tn ρ n s t a A J S) (hM : jds s t A J = jen (s.2 9 (hd t)) (hd t) A M) (hmk : ∀ s0, SJd s t a A S [] (jin (hd t) A J) s0 → cj iv L h0 Ad Tn ρ n (3 * n + 47) 89 [vr 307, vi (hd t), vi a] s0 (qi (MPOSTd s t A M S))) : cj iv L h0 Ad Tn ρ (n + 1) (3 * (n + 1) + 45) 88 [vr 307, vi (hd t), vi a] s (qi (POSTd s t A J S)) := by
  have hTm := HTm h
  have hρm := HTr h
  obtain ⟨h1, h2, h3, h4, h5, h6⟩ := h
  exact judge_of_maked (n := 3 * n + 3) h2 h3 h4 hM h5 hTm hρm (hmk _ (ST_0d h2 h3))
/-- what stays while parts are judged -/
theorem ST_samed {dn : List Int} {J' : JT} {w : SM} (h : SJd s t a A S dn J' w) : w.2 9 = s.2 9 ∧ w.2 10 = s.2 10 ∧ w.2 11 = s.2 11 ∧ w.2 12 = s.2 12 ∧ w.2 13 = s.2 13 ∧ w.2 14 = s.2 14 ∧ w.1 2 = s.1 2 ∧ KJs w ∧ kext s w := ⟨h.1.1.2 9 (by decide), h.1.1.2 10 (by decide), h.1.1.2 11 (by decide), h.1.1.2 12 (by decide), h.1.1.2 13 (by decide), h.1.1.2 14 (by decide), h.1.1.1 2 (by decide), h.1.2.1, h.1.2.2.1⟩
theorem jsp_leafd (h : CTXd Tn ρ n s t a A J S) (h3 : s.2 9 (hd t) = 0 ∨ s.2 9 (hd t) = 1 ∨ s.2 9 (hd t) = 2) : cj iv L h0 Ad Tn ρ (n + 1) (3 * (n + 1) + 45) 88 [vr 307, vi (hd t), vi a] s (qi (POSTd s t A J S)) := by
  obtain ⟨hA, hf, hnd, htd, hDP⟩ := id h.2.1
  have hna : na t = 0 := by
    rw [hf]
    rcases h3 with e | e | e <;> rw [e] <;> rfl
  obtain ⟨b, rfl⟩ := AT_0 hA hna
  have hb := (AT_mem _ hA _ (hd_mem _ hA)).1
  have hdn : ∀ x, x ∈ fl (Term.index b) → x ≠ hd (Term.index b) → x ∈ ([] : List Int) := fun x hx hn => absurd (List.mem_singleton.mp hx) hn
  rcases h3 with e | e | e
  · refine by_maked (M := (jin (hd (Term.index b)) A J, .null)) h ?_ (fun s0 st => ?_)
    · have e : s.2 9 (b : Int) = 0 := e
      show jen (s.2 9 b) b A _ = _
      rw [if_pos e]
      rfl
    · obtain ⟨q9, -, -, -, -, -, -, qK, -⟩ := ST_samed st
      refine dmk_0 (HTm h) (by rw [q9]; exact e) ?_
      exact MP_0d st hnd h.2.2.2.1 h.2.2.1.1 hdn (Nat.le_refl 1) (JX.rf qK) (by omega) (k_const qK).1.1 (k_const qK).1.2
  · refine by_maked (M := (jin (hd (Term.index b)) A J, .result)) h ?_ (fun s0 st => ?_)
    · have e : s.2 9 (b : Int) = 1 := e
      show jen (s.2 9 b) b A _ = _
      rw [if_neg (by omega), if_pos e]
      rfl
    · obtain ⟨q9, -, -, -, -, -, -, qK, -⟩ := ST_samed st
      refine dmk_1 (HTm h) (by rw [q9]; exact e) ?_
      exact MP_0d st hnd h.2.2.2.1 h.2.2.1.1 hdn (Nat.le_refl 1) (JX.rf qK) (by omega) (k_const qK).2.1.1 (k_const qK).2.1.2
  · refine by_maked (M := (jin (hd (Term.index b)) A J, .thrown)) h ?_ (fun s0 st => ?_)
    · have e : s.2 9 (b : Int) = 2 := e
      show jen (s.2 9 b) b A _ = _
      rw [if_neg (by omega), if_neg (by omega), if_pos e]
      rfl
    · obtain ⟨q9, -, -, -, -, -, -, qK, -⟩ := ST_samed st
      refine dmk_2 (HTm h) (by rw [q9]; exact e) ?_
      exact MP_0d st hnd h.2.2.2.1 h.2.2.1.1 hdn (Nat.le_refl 1) (JX.rf qK) (by omega) (k_const qK).2.2.1 (k_const qK).2.2.2
theorem jsp_named (h : CTXd Tn ρ n s t a A J S) (e : s.2 9 (hd t) = 3) : cj iv L h0 Ad Tn ρ (n + 1) (3 * (n + 1) + 45) 88 [vr 307, vi (hd t), vi a] s (qi (POSTd s t A J S)) := by
  obtain ⟨hA, hf, hnd, htd, hDP⟩ := id h.2.1
  obtain ⟨hKJ, hBO, hJR, hSl⟩ := id h.2.2.1
  have hna : na t = 0 := by rw [hf, e]; rfl
  obtain ⟨b, rfl⟩ := AT_0 hA hna
  have hbm := hd_mem _ hA
  have hb := (AT_mem _ hA _ hbm).1
  have hdn : ∀ x, x ∈ fl (Term.index b) → x ≠ hd (Term.index b) → x ∈ ([] : List Int) := fun x hx hn => absurd (List.mem_singleton.mp hx) hn
  refine by_maked (M := jnm (s.2 9) (s.2 11) (s.2 14) (kks s) (bds s b (s.2 10 b)) b (jin (hd (Term.index b)) A J)) h ?_ (fun s0 st => ?_)
  · have e : s.2 9 (b : Int) = 3 := e
    show jen (s.2 9 b) b A _ = _
    rw [if_neg (by omega), if_neg (by omega), if_neg (by omega)]
    rfl
  · obtain ⟨q9, q10, q11, q12, q13, q14, q2, qK, qx⟩ := ST_samed st
    have hb0 : bds s0 = bds s := bds_x st.1
    refine dmk_3 (HTm h) (HTr h) (by rw [q9]; exact e) (by rw [q12]; exact hDP _ hbm) ?_
    rw [hb0, q9, q10, q11, q14]
    have hbo := hBO (s.2 10 (hd (Term.index b)))
    generalize hu2 : bds s (hd (Term.index b)) (s.2 10 (hd (Term.index b))) = u at *
    have hu3 : bds s b (s.2 10 b) = u := hu2
    rw [hu3]
    refine ⟨fun hn => ?_, fun hn _ => ?_⟩
    rotate_left
    · obtain ⟨h1, h2⟩ := hbo.resolve_left hn
      refine ⟨fun e8 => ?_, fun e8 => ?_⟩
      · obtain ⟨-, t1, t2⟩ := h2.resolve_right (fun q => by omega)
        have hM : jnm (s.2 9) (s.2 11) (s.2 14) (kks s) u b (jin (hd (Term.index b)) A J) = (jin (hd (Term.index b)) A J, kks s (s.2 11 u)) := by
          unfold jnm
          rw [if_neg hn, if_pos e8]
        rw [hM]
        have hv : vks s (s.2 11 u) := Or.inl ⟨t1, t2⟩
        exact MP_0d st hnd h.2.2.2.1 hKJ hdn (Nat.le_refl 1) (JX.rf qK) (by omega) (kext_vk qx hv) (by rw [kext_kt qx hKJ hv, kks_told ⟨t1, t2⟩])
      · obtain ⟨e10, hSp, hp1, hp2⟩ := h2.resolve_left (fun q => e8 q.1)
        obtain ⟨⟨a1, a2⟩, a3, a4⟩ := st.2.1 _ (Or.inl hSp)
        have hM : jnm (s.2 9) (s.2 11) (s.2 14) (kks s) u b (jin (hd (Term.index b)) A J) = (jin (hd (Term.index b)) A J, jsee (jin (hd (Term.index b)) A J) (s.2 14 (3 * u))) := by
          unfold jnm
          rw [if_neg hn, if_neg e8]
        rw [hM]
        have hρp : ρ (s.2 14 (3 * u)) = none := by
          cases e : ρ (s.2 14 (3 * u)) with
          | none => rfl
          | some z => exact absurd hSp (h.2.2.2.2.2.2 _ (by rw [e]; intro c; cases c)).2
        refine ⟨by rw [e10]; decide, hρp, fun q => ?_, fun q => ?_⟩
        · refine MP_0d st hnd h.2.2.2.1 hKJ hdn (Nat.le_refl 1) (JX.rf qK) (by omega) (k_const qK).1.1 ?_
          unfold jsee
          rw [if_pos (by omega)]
          exact (k_const qK).1.2
        · refine MP_0d st hnd h.2.2.2.1 hKJ hdn (Nat.le_refl 1) (JX.rf qK) (by omega) a1 ?_
          unfold jsee
          rw [if_neg (by omega)]
          exact a2
    · have hM : jnm (s.2 9) (s.2 11) (s.2 14) (kks s) u b (jin (hd (Term.index b)) A J) = (jsr (jin (hd (Term.index b)) A J) (hd (Term.index b)) 1, .null) := by
        unfold jnm
        rw [if_pos hn]
        rfl
      rw [hM]
      have qK' : KJs (ua s0 21 (hd (Term.index b)) 1) := qK
      exact MP_rd st hnd h.2.2.2.1 hKJ hSl hbm (by simp) ⟨by omega, by omega⟩ hdn (Nat.le_refl 1) (JX.rf qK') (by show s0.1 3 ≤ s0.1 3 + 20; omega) (k_const qK').1.1 (k_const qK').1.2
/-- the first part of any -/
theorem ST_ad (hn : JSPd iv L h0 Ad Tn n) (h : CTXd Tn ρ n s t a A J S) {b : Nat} {x : Term} {w : SM} {a' : Int} {A' : Option Term} {J' : JT} {d : Nat} {F : Int → SM → Prop} (hT1 : ATj s (.add (.index b) x)) (hsub : ∃ r, fl t = fl (.add (.index b) x) ++ r) (hhd : (b : Int) = hd t) (hdp : dpt x ≤ n) (hst : SJd s t a A S [] J' w) (ha : aK w a' A') (hd1 : 3 * n + 45 ≤ d)
    (hgo : ∀ r v, SJd s t a A S ([] ++ fl x) (jds s x A' J').1 v → kext w v → vks v r → kts v r = (jds s x A' J').2 → F r v) : cj iv L h0 Ad Tn ρ n d 88 [vr 307, vi (hd x), vi a'] w (qi F) := by
  obtain ⟨r0, hr0⟩ := hsub
  obtain ⟨t1, t2⟩ := HTp h (y := x) (dn := []) (fun v hv => by rw [hr0]; exact List.mem_append_left _ (List.mem_append_right _ hv)) (fun v hv => by cases hv)
  refine ST_1d hn h.2.1 h.2.2.1 hst hT1 ⟨r0, hr0⟩ hhd (fun x q => by cases q) (fun _ q => absurd q (by show ¬ ((0 : Int) = 1); decide)) hdp ?_ ha hd1 t1 t2 hgo
  have h5 := h.2.2.2.2.1
  have := len1 (b := b) (x := x)
  rw [hr0, List.length_append] at h5
  push_cast at h5 ⊢
  simp only [List.length_nil]
  omega
theorem jsp_toldd (hn : JSPd iv L h0 Ad Tn n) (h : CTXd Tn ρ n s t a A J S) (e : s.2 9 (hd t) = 15) : cj iv L h0 Ad Tn ρ (n + 1) (3 * (n + 1) + 45) 88 [vr 307, vi (hd t), vi a] s (qi (POSTd s t A J S)) := by
  obtain ⟨hA, hf, hnd, htd, hDP⟩ := id h.2.1
  obtain ⟨hKJ, hBO, hJR, hSl⟩ := id h.2.2.1
  have hna : na t = 1 := by rw [hf, e]; rfl
  obtain ⟨b, x, rfl⟩ := AT_1 hA hna
  have hbm := hd_mem _ hA
  have hb := (AT_mem _ hA _ hbm).1
  have hdx : dpt x ≤ n := by have := h.1; have e : dpt (Term.add (Term.index b) x) = max 1 (dpt x + 1) := rfl; omega
  have htt := htd _ hbm (Or.inr e)
  have e' : s.2 9 (b : Int) = 15 := e
  refine by_maked (M := ((jds s x (some (kks s (s.2 11 b))) (jin (hd (Term.add (Term.index b) x)) A J)).1, kks s (s.2 11 b))) h ?_ (fun s0 st => ?_)
  · show jen (s.2 9 b) b A _ = _
    rw [if_neg (by omega), if_pos e']
    rfl
  · obtain ⟨q9, q10, q11, q12, q13, q14, q2, qK, qx⟩ := ST_samed st
    have hv : vks s (s.2 11 (hd (Term.add (Term.index b) x))) := Or.inl htt
    refine dmk_11 (HTm h) (by rw [q9]; exact e) ?_
    rw [q14, (kid1 hA).1, q11]
    refine ST_ad hn h hA ⟨[], by simp⟩ rfl hdx st (A' := some (kks s (s.2 11 b))) ⟨kext_vk qx hv, by rw [kext_kt qx hKJ hv]; exact (kks_told htt).symm⟩ (by omega) (fun r v st1 hx1 hv1 hk1 => ?_)
    obtain ⟨r9, r10, r11, r12, r13, r14, r2, rK, rx⟩ := ST_samed st1
    rw [r11]
    exact MP_0d st1 hnd h.2.2.2.1 hKJ dn1 (by rw [len1]; simp; omega) (JX.rf rK) (by omega) (kext_vk rx hv) (by rw [kext_kt rx hKJ hv]; exact (kks_told htt).symm)
theorem jsp_halfd (hn : JSPd iv L h0 Ad Tn n) (h : CTXd Tn ρ n s t a A J S) (e : s.2 9 (hd t) = 13 ∨ s.2 9 (hd t) = 14) : cj iv L h0 Ad Tn ρ (n + 1) (3 * (n + 1) + 45) 88 [vr 307, vi (hd t), vi a] s (qi (POSTd s t A J S)) := by
  obtain ⟨hA, hf, hnd, htd, hDP⟩ := id h.2.1
  obtain ⟨hKJ, hBO, hJR, hSl⟩ := id h.2.2.1
  have hna : na t = 1 := by rw [hf]; rcases e with e | e <;> rw [e] <;> rfl
  obtain ⟨b, x, rfl⟩ := AT_1 hA hna
  have hbm := hd_mem _ hA
  have hb := (AT_mem _ hA _ hbm).1
  have hdx : dpt x ≤ n := by have := h.1; have e : dpt (Term.add (Term.index b) x) = max 1 (dpt x + 1) := rfl; omega
  have e' : s.2 9 (b : Int) = 13 ∨ s.2 9 (b : Int) = 14 := e
  have hxm := hd_mem x hA.2.1
  have hxt : hd x ∈ fl (Term.add (Term.index b) x) := List.mem_append_right _ hxm
  have hp := (AT_mem _ hA _ hxt).1
  have hpb : hd x ≠ hd (Term.add (Term.index b) x) := fun q => (List.nodup_append.mp hnd).2.2 _ (List.mem_singleton.mpr rfl) _ hxm q.symm
  refine by_maked (M := jhf (jds s x) (hd x) (s.2 9 b) (jin (hd (Term.add (Term.index b) x)) A J)) h ?_ (fun s0 st => ?_)
  · show jen (s.2 9 b) b A _ = _
    rw [if_neg (by omega), if_neg (by omega)]
    rfl
  · obtain ⟨q9, q10, q11, q12, q13, q14, q2, qK, qx⟩ := ST_samed st
    refine dmk_10 (HTm h) (by rw [q9]; omega) (D94 (HTm h) (by rw [q9]; omega) ?_)
    rw [q14, (kid1 hA).1]
    refine ST_ad hn h hA ⟨[], by simp⟩ rfl hdx st (A' := none) rfl (by omega) (fun r v st1 hx1 hv1 hk1 => ?_)
    obtain ⟨r9, r10, r11, r12, r13, r14, r2, rK, rx⟩ := ST_samed st1
    have rl := hv1.lt rK.1.1.2 rK.2.1
    have rb := st1.2.2.2.2
    have h5 := h.2.2.2.2.1
    rw [len1] at h5
    rw [List.nil_append] at rb
    have hst0 := st1
    rw [r9]
    generalize hj : jds s x none (jin (hd (Term.add (Term.index b) x)) A J) = jj at *
    have fin : ∀ (m : Term) (J2 : JT) (r2 : Int) (v2 : SM), SJd s (Term.add (Term.index b) x) a A S ([] ++ fl x) J2 v2 → v2.1 3 ≤ v.1 3 → jhf (jds s x) (hd x) (s.2 9 b) (jin (hd (Term.add (Term.index b) x)) A J) = (J2, m) → vks v2 r2 → kts v2 r2 = m → MPOSTd s (Term.add (Term.index b) x) A (jhf (jds s x) (hd x) (s.2 9 b) (jin (hd (Term.add (Term.index b) x)) A J)) S r2 v2 := fun m J2 r2 v2 st2 hb2 hM hv2 hk2 => by
      rw [hM]
      exact MP_0d st2 hnd h.2.2.2.1 hKJ dn1 (by rw [len1]; simp; omega) (JX.rf (ST_samed st2).2.2.2.2.2.2.2.1) (by omega) hv2 hk2
    have other : ∀ w', (v.2 21 (hd x) = 0 ∧ w' = ua v 21 (hd x) 3) ∨ (v.2 21 (hd x) ≠ 0 ∧ (w' = v ∨ w' = ua v 21 (hd x) (v.2 21 (hd x)))) → kts v r ≠ .null → (∀ p q, kts v r ≠ .mul p q) → MPOSTd s (Term.add (Term.index b) x) A (jhf (jds s x) (hd x) (s.2 9 b) (jin (hd (Term.add (Term.index b) x)) A J)) S 0 w' := fun w' hw hn0 hnm => by
      obtain ⟨st2, vx⟩ := ST_nd (z := 3) hst0 hxm hxt hpb ⟨by omega, by omega⟩ hw
      refine fin .null _ 0 w' st2 (by rcases hw with ⟨-, rfl⟩ | ⟨-, rfl | rfl⟩ <;> exact Int.le_refl _) ?_ (k_const (ST_samed st2).2.2.2.2.2.2.2.1).1.1 (k_const (ST_samed st2).2.2.2.2.2.2.2.1).1.2
      unfold jhf
      rw [hj]
      rw [hk1] at hn0 hnm
      cases h2 : jj.2 with
      | null => exact absurd h2 hn0
      | mul p q => exact absurd h2 (hnm p q)
      | _ => rfl
    refine ⟨by rw [q9], by rw [r14, (kid1 hA).1]; exact HTq h hxt, by omega, ?_⟩
    rw [r14, (kid1 hA).1]
    rcases kt_cases rK hv1 with ⟨k4, kr, kk⟩ | ⟨k4, kk⟩ | ⟨k4, kk⟩ | ⟨k4, kk, va, vb⟩ | ⟨k4, kk, va, vb⟩
    · have hM : jhf (jds s x) (hd x) (s.2 9 b) (jin (hd (Term.add (Term.index b) x)) A J) = (jj.1, .null) := by
        unfold jhf
        rw [hj]
        rw [hk1] at kk
        rw [kk]
      have g := fin .null jj.1 0 v hst0 (Int.le_refl _) hM (k_const rK).1.1 (k_const rK).1.2
      exact ⟨fun _ => ⟨fun _ => g, fun _ => ⟨fun _ => g, fun q => absurd k4 q⟩⟩, fun q => by omega⟩
    · exact ⟨fun _ => ⟨fun q => other _ (Or.inr ⟨q, Or.inl rfl⟩) (by rw [kk]; intro c; cases c) (by rw [kk]; intro p q c; cases c), fun q => ⟨fun q0 => by omega, fun _ => other _ (Or.inl ⟨q, rfl⟩) (by rw [kk]; intro c; cases c) (by rw [kk]; intro p q c; cases c)⟩⟩, fun q => by omega⟩
    · exact ⟨fun _ => ⟨fun q => other _ (Or.inr ⟨q, Or.inl rfl⟩) (by rw [kk]; intro c; cases c) (by rw [kk]; intro p q c; cases c), fun q => ⟨fun q0 => by omega, fun _ => other _ (Or.inl ⟨q, rfl⟩) (by rw [kk]; intro c; cases c) (by rw [kk]; intro p q c; cases c)⟩⟩, fun q => by omega⟩
    · exact ⟨fun _ => ⟨fun q => other _ (Or.inr ⟨q, Or.inl rfl⟩) (by rw [kk]; intro c; cases c) (by rw [kk]; intro p q c; cases c), fun q => ⟨fun q0 => by omega, fun _ => other _ (Or.inl ⟨q, rfl⟩) (by rw [kk]; intro c; cases c) (by rw [kk]; intro p q c; cases c)⟩⟩, fun q => by omega⟩
    · have hM : jhf (jds s x) (hd x) (s.2 9 b) (jin (hd (Term.add (Term.index b) x)) A J) = (jj.1, if s.2 9 b = 13 then kts v (v.2 5 r) else kts v (v.2 6 r)) := by
        unfold jhf
        rw [hj]
        rw [hk1] at kk
        rw [kk]
      refine ⟨fun q => absurd k4 q, fun _ => ⟨fun q => ?_, fun q => ?_⟩⟩
      · exact fin _ jj.1 _ v hst0 (Int.le_refl _) hM vb (by rw [if_neg (show ¬ s.2 9 (b : Int) = 13 from q)])
      · exact fin _ jj.1 _ v hst0 (Int.le_refl _) hM va (by rw [if_pos (show s.2 9 (b : Int) = 13 from q)])
end

section
variable {iv : List (Int × Int)} {L : Nat} {h0 : MH} {Ad : Int → Nat} {Tn : Int → Prop} {ρ : Int → Option Int} {k : Nat} {n : Nat} {s : SM} {t : Term} {a : Int} {A : Option Term} {J : JT} {S : Int → Prop}
/-- the second part -/
theorem ST_bd (hn : JSPd iv L h0 Ad Tn n) (h : CTXd Tn ρ n s t a A J S) {b : Nat} {x y : Term} {w : SM} {a' : Int} {A' : Option Term} {J' : JT} {d : Nat} {F : Int → SM → Prop} (hT1 : ATj s (.add (.add (.index b) x) y)) (hsub : ∃ r, fl t = fl (.add (.add (.index b) x) y) ++ r) (hhd : (b : Int) = hd t) (hdp : dpt y ≤ n) (hst : SJd s t a A S ([] ++ fl x) J' w) (ha : aK w a' A') (hd1 : 3 * n + 45 ≤ d)
    (hgo : ∀ r v, SJd s t a A S (([] ++ fl x) ++ fl y) (jds s y A' J').1 v → kext w v → vks v r → kts v r = (jds s y A' J').2 → F r v) : cj iv L h0 Ad Tn ρ n d 88 [vr 307, vi (hd y), vi a'] w (qi F) := by
  obtain ⟨r0, hr0⟩ := hsub
  obtain ⟨t1, t2⟩ := HTp h (y := y) (dn := [] ++ fl x) (fun v hv => by rw [hr0]; exact List.mem_append_left _ (List.mem_append_right _ hv)) (fun v hv => by rw [hr0]; exact List.mem_append_left _ (List.mem_append_left _ (List.mem_append_right _ hv)))
  refine ST_1d hn h.2.1 h.2.2.1 hst hT1 ⟨r0, hr0⟩ hhd (fun v q => List.mem_append_right _ q) (fun _ _ => ?_) hdp ?_ ha hd1 t1 t2 hgo
  · have := (kid1 hT1.1).1
    have e : hd (Term.add (Term.index b) x) = hd t := hhd
    rw [e] at this
    rw [this]
    exact hd_mem x hT1.1.2.1
  · have h5 := h.2.2.2.2.1
    have := len2 (b := b) (x := x) (y := y)
    rw [hr0, List.length_append] at h5
    push_cast at h5 ⊢
    simp only [List.nil_append]
    omega
/-- the third part -/
theorem ST_cd (hn : JSPd iv L h0 Ad Tn n) (h : CTXd Tn ρ n s t a A J S) {b : Nat} {x y z : Term} {w : SM} {a' : Int} {A' : Option Term} {J' : JT} {d : Nat} {F : Int → SM → Prop} (hT1 : ATj s (.add (.add (.add (.index b) x) y) z)) (hsub : ∃ r, fl t = fl (.add (.add (.add (.index b) x) y) z) ++ r) (hhd : (b : Int) = hd t) (hdp : dpt z ≤ n) (hst : SJd s t a A S (([] ++ fl x) ++ fl y) J' w) (ha : aK w a' A') (hd1 : 3 * n + 45 ≤ d)
    (hgo : ∀ r v, SJd s t a A S ((([] ++ fl x) ++ fl y) ++ fl z) (jds s z A' J').1 v → kext w v → vks v r → kts v r = (jds s z A' J').2 → F r v) : cj iv L h0 Ad Tn ρ n d 88 [vr 307, vi (hd z), vi a'] w (qi F) := by
  obtain ⟨r0, hr0⟩ := hsub
  obtain ⟨t1, t2⟩ := HTp h (y := z) (dn := ([] ++ fl x) ++ fl y) (fun v hv => by rw [hr0]; exact List.mem_append_left _ (List.mem_append_right _ hv)) (fun v hv => by
    rw [hr0]
    rcases List.mem_append.mp hv with q | q
    · exact List.mem_append_left _ (List.mem_append_left _ (List.mem_append_left _ (List.mem_append_right _ q)))
    · exact List.mem_append_left _ (List.mem_append_left _ (List.mem_append_right _ q)))
  refine ST_1d hn h.2.1 h.2.2.1 hst hT1 ⟨r0, hr0⟩ hhd (fun v q => ?_) (fun _ q => absurd q (by show ¬ ((0 : Int) + 1 + 1 = 1); decide)) hdp ?_ ha hd1 t1 t2 hgo
  · rcases List.mem_append.mp q with q | q
    · exact List.mem_append_left _ (List.mem_append_right _ q)
    · exact List.mem_append_right _ q
  · have h5 := h.2.2.2.2.1
    have := len3 (b := b) (x := x) (y := y) (z := z)
    rw [hr0, List.length_append] at h5
    push_cast at h5 ⊢
    simp only [List.nil_append, List.length_append]
    omega
theorem jsp_reckd (hn : JSPd iv L h0 Ad Tn n) (h : CTXd Tn ρ n s t a A J S) (e : s.2 9 (hd t) = 4 ∨ s.2 9 (hd t) = 5 ∨ s.2 9 (hd t) = 6 ∨ s.2 9 (hd t) = 7) : cj iv L h0 Ad Tn ρ (n + 1) (3 * (n + 1) + 45) 88 [vr 307, vi (hd t), vi a] s (qi (POSTd s t A J S)) := by
  obtain ⟨hA, hf, hnd, htd, hDP⟩ := id h.2.1
  obtain ⟨hKJ, hBO, hJR, hSl⟩ := id h.2.2.1
  have hna : na t = 2 := by rw [hf]; rcases e with e | e | e | e <;> rw [e] <;> rfl
  obtain ⟨b, x, y, rfl⟩ := AT_2 hA hna
  have hbm := hd_mem _ hA
  have hb := (AT_mem _ hA _ hbm).1
  obtain ⟨hdx, hdy⟩ := dpt2 h.1
  have e' : s.2 9 (b : Int) = 4 ∨ s.2 9 (b : Int) = 5 ∨ s.2 9 (b : Int) = 6 ∨ s.2 9 (b : Int) = 7 := e
  refine by_maked (M := ((jds s y (some .result) (jds s x (some .result) (jin (hd (Term.add (Term.add (Term.index b) x) y)) A J)).1).1, if s.2 9 b = 7 then .thrown else .result)) h ?_ (fun s0 st => ?_)
  · show jen (s.2 9 b) b A _ = _
    rw [if_neg (by omega), if_neg (by omega), if_neg (by omega)]
    rfl
  · obtain ⟨q9, q10, q11, q12, q13, q14, q2, qK, qx⟩ := ST_samed st
    refine dmk_4 (HTm h) (by rw [q9]; exact e) ?_
    rw [q14, (kid2 hA).1]
    refine ST_ad hn h hA.1 ⟨_, rfl⟩ rfl hdx st (A' := some .result) (k_const qK).2.1 (by omega) (fun r v st1 hx1 hv1 hk1 => ?_)
    obtain ⟨r9, r10, r11, r12, r13, r14, r2, rK, rx⟩ := ST_samed st1
    refine ⟨by rw [r9, q9], ?_⟩
    rw [r14, (kid2 hA).2]
    refine ST_bd hn h hA ⟨[], by simp⟩ rfl hdy st1 (A' := some .result) (k_const rK).2.1 (by omega) (fun r' u st2 hx2 hv2 hk2 => ?_)
    obtain ⟨u9, u10, u11, u12, u13, u14, u2, uK, ux⟩ := ST_samed st2
    rw [u9]
    refine ⟨fun q => ?_, fun q => ?_⟩
    · rw [if_neg (show ¬ s.2 9 (b : Int) = 7 from q)]
      exact MP_0d st2 hnd h.2.2.2.1 hKJ dn2 (by rw [len2]; simp; omega) (JX.rf uK) (by omega) (k_const uK).2.1.1 (k_const uK).2.1.2
    · rw [if_pos (show s.2 9 (b : Int) = 7 from q)]
      exact MP_0d st2 hnd h.2.2.2.1 hKJ dn2 (by rw [len2]; simp; omega) (JX.rf uK) (by omega) (k_const uK).2.2.1 (k_const uK).2.2.2
theorem jsp_letd (hn : JSPd iv L h0 Ad Tn n) (h : CTXd Tn ρ n s t a A J S) (e : s.2 9 (hd t) = 10) : cj iv L h0 Ad Tn ρ (n + 1) (3 * (n + 1) + 45) 88 [vr 307, vi (hd t), vi a] s (qi (POSTd s t A J S)) := by
  obtain ⟨hA, hf, hnd, htd, hDP⟩ := id h.2.1
  obtain ⟨hKJ, hBO, hJR, hSl⟩ := id h.2.2.1
  have hna : na t = 2 := by rw [hf, e]; rfl
  obtain ⟨b, x, y, rfl⟩ := AT_2 hA hna
  have hbm := hd_mem _ hA
  have hb := (AT_mem _ hA _ hbm).1
  obtain ⟨hdx, hdy⟩ := dpt2 h.1
  have e' : s.2 9 (b : Int) = 10 := e
  refine by_maked (M := jds s y A (jds s x none (jin (hd (Term.add (Term.add (Term.index b) x) y)) A J)).1) h ?_ (fun s0 st => ?_)
  · show jen (s.2 9 b) b A _ = _
    rw [if_neg (by omega), if_pos e']
    rfl
  · obtain ⟨q9, q10, q11, q12, q13, q14, q2, qK, qx⟩ := ST_samed st
    refine dmk_7 (HTm h) (by rw [q9]; exact e) ?_
    rw [q14, (kid2 hA).1]
    refine ST_ad hn h hA.1 ⟨_, rfl⟩ rfl hdx st (A' := none) rfl (by omega) (fun r v st1 hx1 hv1 hk1 => ?_)
    obtain ⟨r9, r10, r11, r12, r13, r14, r2, rK, rx⟩ := ST_samed st1
    refine ⟨by rw [r9, q9], ?_⟩
    rw [r14, (kid2 hA).2]
    refine ST_bd hn h hA ⟨[], by simp⟩ rfl hdy st1 (A' := A) (aK_x rx hKJ h.2.2.2.1) (by omega) (fun r' u st2 hx2 hv2 hk2 => ?_)
    obtain ⟨u9, u10, u11, u12, u13, u14, u2, uK, ux⟩ := ST_samed st2
    exact MP_0d st2 hnd h.2.2.2.1 hKJ dn2 (by rw [len2]; simp; omega) (JX.rf uK) (by omega) hv2 hk2
theorem jsp_used (hn : JSPd iv L h0 Ad Tn n) (h : CTXd Tn ρ n s t a A J S) (e : s.2 9 (hd t) = 9) : cj iv L h0 Ad Tn ρ (n + 1) (3 * (n + 1) + 45) 88 [vr 307, vi (hd t), vi a] s (qi (POSTd s t A J S)) := by
  obtain ⟨hA, hf, hnd, htd, hDP⟩ := id h.2.1
  obtain ⟨hKJ, hBO, hJR, hSl⟩ := id h.2.2.1
  have hna : na t = 2 := by rw [hf, e]; rfl
  obtain ⟨b, x, y, rfl⟩ := AT_2 hA hna
  have hbm := hd_mem _ hA
  have hb := (AT_mem _ hA _ hbm).1
  obtain ⟨hdx, hdy⟩ := dpt2 h.1
  have e' : s.2 9 (b : Int) = 9 := e
  have hxm := hd_mem x hA.1.2.1
  have hxt : hd x ∈ fl (Term.add (Term.add (Term.index b) x) y) := List.mem_append_left _ (List.mem_append_right _ hxm)
  have hp := (AT_mem _ hA _ hxt).1
  have hnd1 := (List.nodup_append.mp hnd).1
  have hpb : hd x ≠ hd (Term.add (Term.add (Term.index b) x) y) := fun q => (List.nodup_append.mp hnd1).2.2 _ (List.mem_singleton.mpr rfl) _ hxm q.symm
  refine by_maked (M := jus (jds s x) (jds s y) (hd x) (jin (hd (Term.add (Term.add (Term.index b) x) y)) A J)) h ?_ (fun s0 st => ?_)
  · show jen (s.2 9 b) b A _ = _
    rw [if_pos e']
    rfl
  · obtain ⟨q9, q10, q11, q12, q13, q14, q2, qK, qx⟩ := ST_samed st
    refine dmk_6 (HTm h) (by rw [q9]; exact e) (D91 (HTm h) (by rw [q9]; exact e) ?_)
    rw [q14, (kid2 hA).1]
    refine ST_ad hn h hA.1 ⟨_, rfl⟩ rfl hdx st (A' := none) rfl (by omega) (fun r v st1 hx1 hv1 hk1 => ?_)
    obtain ⟨r9, r10, r11, r12, r13, r14, r2, rK, rx⟩ := ST_samed st1
    have rl := hv1.lt rK.1.1.2 rK.2.1
    generalize hj : jds s x none (jin (hd (Term.add (Term.add (Term.index b) x) y)) A J) = jj at *
    -- the second part asked for UNKNOWN
    have unk : ∀ (J2 : JT) (v2 : SM), SJd s (Term.add (Term.add (Term.index b) x) y) a A S ([] ++ fl x) J2 v2 → jus (jds s x) (jds s y) (hd x) (jin (hd (Term.add (Term.add (Term.index b) x) y)) A J) = ((jds s y (some .null) J2).1, .null) → cj iv L h0 Ad Tn ρ n (3 * n + 45) 88 [vr 307, vi (hd y), vi 0] v2 (qi fun _ w => MPOSTd s (Term.add (Term.add (Term.index b) x) y) A (jus (jds s x) (jds s y) (hd x) (jin (hd (Term.add (Term.add (Term.index b) x) y)) A J)) S 0 w) := fun J2 v2 st2 hM => by
      refine ST_bd hn h hA ⟨[], by simp⟩ rfl hdy st2 (A' := some .null) (k_const (ST_samed st2).2.2.2.2.2.2.2.1).1 (Nat.le_refl _) (fun r' u st3 hx3 hv3 hk3 => ?_)
      obtain ⟨u9, u10, u11, u12, u13, u14, u2, uK, ux⟩ := ST_samed st3
      rw [hM]
      exact MP_0d st3 hnd h.2.2.2.1 hKJ dn2 (by rw [len2]; simp; omega) (JX.rf uK) (by omega) (k_const uK).1.1 (k_const uK).1.2
    have other : ∀ w', (v.2 21 (hd x) = 0 ∧ w' = ua v 21 (hd x) 2) ∨ (v.2 21 (hd x) ≠ 0 ∧ (w' = v ∨ w' = ua v 21 (hd x) (v.2 21 (hd x)))) → kts v r ≠ .null → (∀ p q, kts v r ≠ .add p q) → cj iv L h0 Ad Tn ρ n (3 * n + 45) 88 [vr 307, vi (hd y), vi 0] w' (qi fun _ w => MPOSTd s (Term.add (Term.add (Term.index b) x) y) A (jus (jds s x) (jds s y) (hd x) (jin (hd (Term.add (Term.add (Term.index b) x) y)) A J)) S 0 w) := fun w' hw hn0 hnm => by
      obtain ⟨st2, vx⟩ := ST_nd (z := 2) st1 hxm hxt hpb ⟨by omega, by omega⟩ hw
      refine unk _ w' st2 ?_
      unfold jus
      rw [hj]
      rw [hk1] at hn0 hnm
      cases h2 : jj.2 with
      | null => exact absurd h2 hn0
      | add p q => exact absurd h2 (hnm p q)
      | _ => rfl
    have rb := st1.2.2.2.2
    have h5 := h.2.2.2.2.1
    rw [len2] at h5
    rw [List.nil_append] at rb
    have hM0 := (k_const rK).1.2
    refine ⟨by rw [r9, q9], by rw [r14, (kid2 hA).1]; exact HTq h hxt, by omega, ?_⟩
    rw [r14, (kid2 hA).1, (kid2 hA).2]
    rcases kt_cases rK hv1 with ⟨k4, kr, kk⟩ | ⟨k4, kk⟩ | ⟨k4, kk⟩ | ⟨k4, kk, va, vb⟩ | ⟨k4, kk, va, vb⟩
    · have g := unk jj.1 v st1 (by
        unfold jus
        rw [hj]
        rw [hk1] at kk
        rw [kk])
      exact ⟨fun _ => ⟨fun _ => g, fun _ => ⟨fun _ => g, fun q => absurd k4 q⟩⟩, fun q => by omega⟩
    · exact ⟨fun _ => ⟨fun q => other v (Or.inr ⟨q, Or.inl rfl⟩) (by rw [kk]; intro c; cases c) (by rw [kk]; intro p q c; cases c), fun q => ⟨fun q0 => by omega, fun _ => other _ (Or.inl ⟨q, rfl⟩) (by rw [kk]; intro c; cases c) (by rw [kk]; intro p q c; cases c)⟩⟩, fun q => by omega⟩
    · exact ⟨fun _ => ⟨fun q => other v (Or.inr ⟨q, Or.inl rfl⟩) (by rw [kk]; intro c; cases c) (by rw [kk]; intro p q c; cases c), fun q => ⟨fun q0 => by omega, fun _ => other _ (Or.inl ⟨q, rfl⟩) (by rw [kk]; intro c; cases c) (by rw [kk]; intro p q c; cases c)⟩⟩, fun q => by omega⟩
    · refine ⟨fun q => absurd k4 q, fun _ => ST_bd hn h hA ⟨[], by simp⟩ rfl hdy st1 (A' := some (kts v (v.2 5 r))) ⟨va, rfl⟩ (Nat.le_refl _) (fun r' u st2 hx2 hv2 hk2 => ?_)⟩
      obtain ⟨u9, u10, u11, u12, u13, u14, u2, uK, ux⟩ := ST_samed st2
      have hM : jus (jds s x) (jds s y) (hd x) (jin (hd (Term.add (Term.add (Term.index b) x) y)) A J) = ((jds s y (some (kts v (v.2 5 r))) jj.1).1, kts v (v.2 6 r)) := by
        unfold jus
        rw [hj]
        rw [hk1] at kk
        rw [kk]
      rw [hM, (hx2.2.2 r rl.2).2.2.1]
      exact MP_0d st2 hnd h.2.2.2.1 hKJ dn2 (by rw [len2]; simp; omega) (JX.rf uK) (by omega) (kext_vk hx2 vb) (kext_kt hx2 rK vb)
    · exact ⟨fun _ => ⟨fun q => other v (Or.inr ⟨q, Or.inl rfl⟩) (by rw [kk]; intro c; cases c) (by rw [kk]; intro p q c; cases c), fun q => ⟨fun q0 => by omega, fun _ => other _ (Or.inl ⟨q, rfl⟩) (by rw [kk]; intro c; cases c) (by rw [kk]; intro p q c; cases c)⟩⟩, fun q => by omega⟩
end

