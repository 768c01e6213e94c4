/-! The desk judges as the function tells: DEF, PAIR, PICK; then every tree. -/
section
variable {iv : List (Int × Int)} {L : Nat} {h0 : MH} {Ad : Int → Nat} {Tn : Int → Prop} {ρ : Int → Option Int} {k : Nat} {n : Nat} {s : SM} {t : Term} {a : Int} {A : Option Term} {J : JT} {S : Int → Prop}
theorem jsr_0 {J : JT} {b : Int} (h : J.2.2 b = 0) : jsr J b 0 = J := by
  refine Prod.ext rfl (Prod.ext rfl (funext fun x => ?_))
  show (if x = b then (0 : Int) else J.2.2 x) = J.2.2 x
  split
  · rename_i e; rw [e, h]
  · rfl
theorem jsp_defd (hn : JSPd iv L h0 Ad Tn n) (h : CTXd Tn ρ n s t a A J S) (e : s.2 9 (hd t) = 8) : cj iv L h0 Ad Tn ρ (n + 1) (3 * (n + 1) + 45) 88 [vr 307, vi (hd t), vi a] s (qi (POSTd s t A J S)) := by
  obtain ⟨hA, hf, hnd, htd, hDP⟩ := id h.2.1
  obtain ⟨hKJ, hBO, hJR, hSl⟩ := id h.2.2.1
  have hna : na t = 1 := by rw [hf, e]; rfl
  obtain ⟨b, x, rfl⟩ := AT_1 hA hna
  have hbm := hd_mem _ hA
  have hb := (AT_mem _ hA _ hbm).1
  have hdx : dpt x ≤ n := by have := h.1; have e : dpt (Term.add (Term.index b) x) = max 1 (dpt x + 1) := rfl; omega
  have htt := htd _ hbm (Or.inl e)
  have e' : s.2 9 (b : Int) = 8 := e
  have hbx : hd (Term.add (Term.index b) x) ∉ [] ++ fl x := fun q => (List.nodup_append.mp hnd).2.2 _ (List.mem_singleton.mpr rfl) _ q rfl
  have h5 := h.2.2.2.2.1
  rw [len1] at h5
  refine by_maked (M := jdf (jds s x) b (kks s (s.2 11 b)) A (jin (hd (Term.add (Term.index b) x)) A J)) h ?_ (fun s0 st => ?_)
  · show jen (s.2 9 b) b A _ = _
    rw [if_pos e']
    rfl
  · obtain ⟨q9, q10, q11, q12, q13, q14, q2, qK, qx⟩ := ST_samed st
    have hv : vks s (s.2 11 (hd (Term.add (Term.index b) x))) := Or.inl htt
    have hk0 : kks s (s.2 11 b) = kts s (s.2 11 (hd (Term.add (Term.index b) x))) := kks_told htt
    refine dmk_5 (HTm h) (by rw [q9]; exact e) (D90 (HTm h) (HTr h) (by rw [q9]; exact e) ?_)
    rw [q14, (kid1 hA).1]
    have plain : ∀ (a' : Int) (A' : Option Term), aK s0 a' A' → jdf (jds s x) b (kks s (s.2 11 b)) A (jin (hd (Term.add (Term.index b) x)) A J) = ((jds s x A' (jin (hd (Term.add (Term.index b) x)) A J)).1, kmk 3 (kks s (s.2 11 b)) (jds s x A' (jin (hd (Term.add (Term.index b) x)) A J)).2) →
        cj iv L h0 Ad Tn ρ n (3 * n + 45) 88 [vr 307, vi (hd x), vi a'] s0 (qi fun r v => cj iv L h0 Ad Tn ρ n (3 * n + 45) 65 [vr 307, vi 3, vi (s0.2 11 (hd (Term.add (Term.index b) x))), vi r] v (qi fun r2 w => MPOSTd s (Term.add (Term.index b) x) A (jdf (jds s x) b (kks s (s.2 11 b)) A (jin (hd (Term.add (Term.index b) x)) A J)) S r2 w)) := fun a' A' ha' hM => by
      refine ST_ad hn h hA ⟨[], by simp⟩ rfl hdx st ha' (Nat.le_refl _) (fun r v st1 hx1 hv1 hk1 => ?_)
      obtain ⟨r9, r10, r11, r12, r13, r14, r2, rK, rx⟩ := ST_samed st1
      have rb := st1.2.2.2.2
      rw [List.nil_append] at rb
      rw [q11]
      refine cjm (makeKind_okd rK (Or.inl rfl) (kext_vk rx hv) hv1 (by omega)) (by omega) ?_
      rintro r2 w ⟨w1, w2, w3, w4, w5, w6⟩
      rw [hM]
      exact MP_0d st1 hnd h.2.2.2.1 hKJ dn1 (by rw [len1]; simp; omega) (JX.kx w1 w2 w3) (by omega) w5 (by rw [w6, kext_kt rx hKJ hv, ← hk0, hk1])
    refine ⟨fun ha1 => ?_, fun ha1 => ?_⟩
    · cases A with
      | none => exact plain _ none rfl rfl
      | some T =>
        exfalso
        have := h.2.2.2.1.1.lt hKJ.1.1.2 hKJ.2.1
        omega
    · cases A with
      | none => exact absurd h.2.2.2.1 ha1
      | some T =>
        obtain ⟨av, ak⟩ := id h.2.2.2.1
        have av0 := kext_vk qx av
        have al := av0.lt qK.1.1.2 qK.2.1
        have eT : kts s0 a = T := (kext_kt qx hKJ av).trans ak
        have hM0 := (k_const qK).1.2
        have h03 := st.2.2.2.2
        simp only [List.length_nil] at h03
        refine ⟨by omega, fun k3 => ?_, fun k3 => ?_⟩
        · rcases kt_cases qK av0 with ⟨k4, kr, kk⟩ | ⟨k4, kk⟩ | ⟨k4, kk⟩ | ⟨k4, kk, va, vb⟩ | ⟨k4, kk, va, vb⟩
          · rw [eT] at kk
            subst kk
            exact ⟨fun q => absurd kr q, fun _ => plain _ (some .null) (k_const qK).1 rfl⟩
          · have hr0 : a ≠ 0 := fun q => by rw [q, hM0] at kk; cases kk
            rw [eT] at kk
            subst kk
            exact ⟨fun _ => plain _ none rfl rfl, fun q => absurd q hr0⟩
          · have hr0 : a ≠ 0 := fun q => by rw [q, hM0] at kk; cases kk
            rw [eT] at kk
            subst kk
            exact ⟨fun _ => plain _ none rfl rfl, fun q => absurd q hr0⟩
          · exact absurd k4 k3
          · have hr0 : a ≠ 0 := fun q => by rw [q, hM0] at kk; cases kk
            rw [eT] at kk
            subst kk
            exact ⟨fun _ => plain _ none rfl rfl, fun q => absurd q hr0⟩
        · rcases kt_cases qK av0 with ⟨k4, kr, kk⟩ | ⟨k4, kk⟩ | ⟨k4, kk⟩ | ⟨k4, kk, va, vb⟩ | ⟨k4, kk, va, vb⟩
          · omega
          · omega
          · omega
          · have hr0 : a ≠ 0 := fun q => by rw [q, hM0] at kk; cases kk
            have hT : T = .add (kts s0 (s0.2 5 a)) (kts s0 (s0.2 6 a)) := eT.symm.trans kk
            have hks : kts s0 (s0.2 11 (hd (Term.add (Term.index b) x))) = kks s (s.2 11 b) := by rw [q11, kext_kt qx hKJ hv, hk0]
            have hv0 : vks s0 (s0.2 11 (hd (Term.add (Term.index b) x))) := by rw [q11]; exact kext_vk qx hv
            refine ⟨hr0, cjm (areMeeting_okd qK (by omega) hv0 va) (by omega) ?_⟩
            rintro r22 s1 ⟨rfl, rfl⟩
            rw [hks]
            have aft : ∀ (r : Int) (w : SM), SJd s (Term.add (Term.index b) x) a (some T) S ([] ++ fl x) (jds s x (some (kts s1 (s1.2 6 a))) (jin (hd (Term.add (Term.index b) x)) (some T) J)).1 w → kext s1 w → vks w r → kts w r = (jds s x (some (kts s1 (s1.2 6 a))) (jin (hd (Term.add (Term.index b) x)) (some T) J)).2 →
                (kmt (kks s (s.2 11 b)) (kts s1 (s1.2 5 a)) = false → cj iv L h0 Ad Tn ρ n (3 * n + 45) 65 [vr 307, vi 3, vi (s1.2 11 (hd (Term.add (Term.index b) x))), vi r] (ua w 21 (hd (Term.add (Term.index b) x)) 4) (qi fun r2 u => MPOSTd s (Term.add (Term.index b) x) (some T) (jdf (jds s x) b (kks s (s.2 11 b)) (some T) (jin (hd (Term.add (Term.index b) x)) (some T) J)) S r2 u)) ∧
                (kmt (kks s (s.2 11 b)) (kts s1 (s1.2 5 a)) = true → cj iv L h0 Ad Tn ρ n (3 * n + 45) 65 [vr 307, vi 3, vi (s1.2 11 (hd (Term.add (Term.index b) x))), vi r] w (qi fun r2 u => MPOSTd s (Term.add (Term.index b) x) (some T) (jdf (jds s x) b (kks s (s.2 11 b)) (some T) (jin (hd (Term.add (Term.index b) x)) (some T) J)) S r2 u)) := fun r w st1 hx1 hv1 hk1 => by
              obtain ⟨r9, r10, r11, r12, r13, r14, r2, rK, rx⟩ := ST_samed st1
              have rb := st1.2.2.2.2
              rw [List.nil_append] at rb
              have htv : vks w (s.2 11 (hd (Term.add (Term.index b) x))) := kext_vk rx hv
              rw [q11]
              refine ⟨fun hm => ?_, fun hm => ?_⟩
              · have rK' : KJs (ua w 21 (hd (Term.add (Term.index b) x)) 4) := rK
                refine cjm (makeKind_okd rK' (Or.inl rfl) htv hv1 (by show w.1 3 < 1440; omega)) (by omega) ?_
                rintro r2 u ⟨w1, w2, w3, w4, w5, w6⟩
                have w4 : u.1 3 ≤ w.1 3 + 1 := w4
                have w6 : kts u r2 = kmk 3 (kts w (s.2 11 (hd (Term.add (Term.index b) x)))) (kts w r) := w6
                have hM : jdf (jds s x) b (kks s (s.2 11 b)) (some T) (jin (hd (Term.add (Term.index b) x)) (some T) J) = (jsr (jds s x (some (kts s1 (s1.2 6 a))) (jin (hd (Term.add (Term.index b) x)) (some T) J)).1 (hd (Term.add (Term.index b) x)) 4, kmk 3 (kks s (s.2 11 b)) (jds s x (some (kts s1 (s1.2 6 a))) (jin (hd (Term.add (Term.index b) x)) (some T) J)).2) := by
                  rw [hT]
                  unfold jdf
                  simp only [hm]
                  rfl
                rw [hM]
                exact MP_rd st1 hnd h.2.2.2.1 hKJ hSl hbm hbx ⟨by omega, by omega⟩ dn1 (by rw [len1]; simp; omega) (JX.kx w1 w2 w3) (by omega) w5 (by rw [w6, kext_kt rx hKJ hv, ← hk0, hk1])
              · refine cjm (makeKind_okd rK (Or.inl rfl) htv hv1 (by omega)) (by omega) ?_
                rintro r2 u ⟨w1, w2, w3, w4, w5, w6⟩
                have hM : jdf (jds s x) b (kks s (s.2 11 b)) (some T) (jin (hd (Term.add (Term.index b) x)) (some T) J) = ((jds s x (some (kts s1 (s1.2 6 a))) (jin (hd (Term.add (Term.index b) x)) (some T) J)).1, kmk 3 (kks s (s.2 11 b)) (jds s x (some (kts s1 (s1.2 6 a))) (jin (hd (Term.add (Term.index b) x)) (some T) J)).2) := by
                  have hj0 : jsr (jds s x (some (kts s1 (s1.2 6 a))) (jin (hd (Term.add (Term.index b) x)) (some T) J)).1 b 0 = (jds s x (some (kts s1 (s1.2 6 a))) (jin (hd (Term.add (Term.index b) x)) (some T) J)).1 := jsr_0 st1.2.2.2.1.2
                  refine Prod.ext ?_ ?_
                  · rw [← hj0]
                    rw [hT]
                    unfold jdf
                    simp only [hm]
                    rfl
                  · rw [hT]
                    rfl
                rw [hM]
                exact MP_0d st1 hnd h.2.2.2.1 hKJ dn1 (by rw [len1]; simp; omega) (JX.kx w1 w2 w3) (by omega) w5 (by rw [w6, kext_kt rx hKJ hv, ← hk0, hk1])
            cases hm : kmt (kks s (s.2 11 b)) (kts s1 (s1.2 5 a)) with
            | true =>
              refine ⟨rfl, fun q => absurd q (by decide), fun _ => ST_ad hn h hA ⟨[], by simp⟩ rfl hdx st (A' := some (kts s1 (s1.2 6 a))) ⟨vb, rfl⟩ (Nat.le_refl _) (fun r v st1 hx1 hv1 hk1 => (aft r v st1 hx1 hv1 hk1).2 hm)⟩
            | false =>
              refine ⟨rfl, fun _ => ?_, fun q => absurd rfl q⟩
              have hbn : (b : Int) ∉ fl x := hbx
              refine ST_1d (ρ := ro ρ b 4) hn h.2.1 h.2.2.1 st hA ⟨[], by simp⟩ rfl (fun x q => by cases q) (fun _ q => absurd q (by show ¬ ((0 : Int) = 1); decide)) hdx (by simp; omega) (A' := some (kts s1 (s1.2 6 a))) ⟨vb, rfl⟩ (Nat.le_refl _) (fun v hv => h.2.2.2.2.2.1 v (List.mem_append_right _ hv)) (fun v q => ?_) (fun r v st1 hx1 hv1 hk1 => (aft r v st1 hx1 hv1 hk1).1 hm)
              by_cases ev : v = (b : Int)
              · subst ev
                exact ⟨hbn, fun w => w.elim (fun w => hSl _ w hbm) (fun w => by cases w)⟩
              · unfold ro at q
                rw [if_neg ev] at q
                exact ⟨fun w => (h.2.2.2.2.2.2 v q).1 (List.mem_append_right _ w), fun w => w.elim (h.2.2.2.2.2.2 v q).2 (fun w => by cases w)⟩
          · omega
theorem jsp_paird (hn : JSPd iv L h0 Ad Tn n) (h : CTXd Tn ρ n s t a A J S) (e : s.2 9 (hd t) = 12) : cj iv L h0 Ad Tn ρ (n + 1) (3 * (n + 1) + 45) 88 [vr 307, vi (hd t), vi a] s (qi (POSTd s t A J S)) := by
  obtain ⟨hA, hf, hnd, htd, hDP⟩ := id h.2.1
  obtain ⟨hKJ, hBO, hJR, hSl⟩ := id h.2.2.1
  have hna : na t = 2 := by rw [hf, e]; rfl
  obtain ⟨b, x, y, rfl⟩ := AT_2 hA hna
  have hbm := hd_mem _ hA
  have hb := (AT_mem _ hA _ hbm).1
  obtain ⟨hdx, hdy⟩ := dpt2 h.1
  have e' : s.2 9 (b : Int) = 12 := e
  have h5 := h.2.2.2.2.1
  rw [len2] at h5
  refine by_maked (M := jpr (jds s x) (jds s y) A (jin (hd (Term.add (Term.add (Term.index b) x) y)) A J)) h ?_ (fun s0 st => ?_)
  · show jen (s.2 9 b) b A _ = _
    rw [if_neg (by omega), if_neg (by omega), if_pos e']
    rfl
  · obtain ⟨q9, q10, q11, q12, q13, q14, q2, qK, qx⟩ := ST_samed st
    refine dmk_9 (HTm h) (by rw [q9]; exact e) (D93 (HTm h) (by rw [q9]; exact e) ?_)
    have plain : ∀ (a1 : Int) (A1 : Option Term) (a2 : Int) (A2 : Option Term), aK s0 a1 A1 → aK s0 a2 A2 → jpr (jds s x) (jds s y) A (jin (hd (Term.add (Term.add (Term.index b) x) y)) A J) = ((jds s y A2 (jds s x A1 (jin (hd (Term.add (Term.add (Term.index b) x) y)) A J)).1).1, kmk 4 (jds s x A1 (jin (hd (Term.add (Term.add (Term.index b) x) y)) A J)).2 (jds s y A2 (jds s x A1 (jin (hd (Term.add (Term.add (Term.index b) x) y)) A J)).1).2) →
        two iv L h0 Ad Tn ρ n (3 * n + 45) (hd (Term.add (Term.add (Term.index b) x) y)) a1 a2 s0 (fun r2 w => MPOSTd s (Term.add (Term.add (Term.index b) x) y) A (jpr (jds s x) (jds s y) A (jin (hd (Term.add (Term.add (Term.index b) x) y)) A J)) S r2 w) := fun a1 A1 a2 A2 ha1 ha2 hM => by
      unfold two
      rw [q14, (kid2 hA).1]
      refine ST_ad hn h hA.1 ⟨_, rfl⟩ rfl hdx st ha1 (Nat.le_refl _) (fun r v st1 hx1 hv1 hk1 => ?_)
      obtain ⟨r9, r10, r11, r12, r13, r14, r2, rK, rx⟩ := ST_samed st1
      refine ⟨by rw [r9, q9], ?_⟩
      rw [r14, (kid2 hA).2]
      refine ST_bd hn h hA ⟨[], by simp⟩ rfl hdy st1 (aK_x hx1 qK ha2) (Nat.le_refl _) (fun r' u st2 hx2 hv2 hk2 => ?_)
      obtain ⟨u9, u10, u11, u12, u13, u14, u2, uK, ux⟩ := ST_samed st2
      have rb := st2.2.2.2.2
      rw [List.nil_append, List.length_append] at rb
      refine cjm (makeKind_okd uK (Or.inr rfl) (kext_vk hx2 hv1) hv2 (by omega)) (by omega) ?_
      rintro r2 w ⟨w1, w2, w3, w4, w5, w6⟩
      rw [hM]
      exact MP_0d st2 hnd h.2.2.2.1 hKJ dn2 (by rw [len2]; simp; omega) (JX.kx w1 w2 w3) (by omega) w5 (by rw [w6, kext_kt hx2 rK hv1, hk1, hk2])
    cases A with
    | none =>
      have ha1 : a = -1 := h.2.2.2.1
      exact ⟨fun _ => plain _ none _ none rfl rfl rfl, fun q => by omega, fun q => absurd ha1 q⟩
    | some T =>
      obtain ⟨av, ak⟩ := id h.2.2.2.1
      have av0 := kext_vk qx av
      have al := av0.lt qK.1.1.2 qK.2.1
      have eT : kts s0 a = T := (kext_kt qx hKJ av).trans ak
      have hM0 := (k_const qK).1.2
      have h03 := st.2.2.2.2
      simp only [List.length_nil] at h03
      rcases kt_cases qK av0 with ⟨k4, kr, kk⟩ | ⟨k4, kk⟩ | ⟨k4, kk⟩ | ⟨k4, kk, va, vb⟩ | ⟨k4, kk, va, vb⟩
      · rw [eT] at kk
        subst kk
        exact ⟨fun q => by omega, fun _ => plain _ (some .null) _ (some .null) (k_const qK).1 (k_const qK).1 rfl, fun _ q => absurd kr q⟩
      · have hr0 : a ≠ 0 := fun q => by rw [q, hM0] at kk; cases kk
        rw [eT] at kk
        subst kk
        exact ⟨fun q => by omega, fun q => absurd q hr0, fun _ _ => ⟨by omega, fun _ => plain _ none _ none rfl rfl rfl, fun q => by omega⟩⟩
      · have hr0 : a ≠ 0 := fun q => by rw [q, hM0] at kk; cases kk
        rw [eT] at kk
        subst kk
        exact ⟨fun q => by omega, fun q => absurd q hr0, fun _ _ => ⟨by omega, fun _ => plain _ none _ none rfl rfl rfl, fun q => by omega⟩⟩
      · have hr0 : a ≠ 0 := fun q => by rw [q, hM0] at kk; cases kk
        rw [eT] at kk
        subst kk
        exact ⟨fun q => by omega, fun q => absurd q hr0, fun _ _ => ⟨by omega, fun _ => plain _ none _ none rfl rfl rfl, fun q => by omega⟩⟩
      · have hr0 : a ≠ 0 := fun q => by rw [q, hM0] at kk; cases kk
        have hT : T = .mul (kts s0 (s0.2 5 a)) (kts s0 (s0.2 6 a)) := eT.symm.trans kk
        have key := plain (s0.2 5 a) (some (kts s0 (s0.2 5 a))) (s0.2 6 a) (some (kts s0 (s0.2 6 a))) ⟨va, rfl⟩ ⟨vb, rfl⟩ (by rw [hT]; rfl)
        exact ⟨fun q => by omega, fun q => absurd q hr0, fun _ _ => ⟨by omega, fun q => absurd k4 q, fun _ => key⟩⟩
theorem jsp_pickd (hn : JSPd iv L h0 Ad Tn n) (h : CTXd Tn ρ n s t a A J S) (e : s.2 9 (hd t) = 11) : cj iv L h0 Ad Tn ρ (n + 1) (3 * (n + 1) + 45) 88 [vr 307, vi (hd t), vi a] s (qi (POSTd s t A J S)) := by
  obtain ⟨hA, hf, hnd, htd, hDP⟩ := id h.2.1
  obtain ⟨hKJ, hBO, hJR, hSl⟩ := id h.2.2.1
  have hna : na t = 3 := by rw [hf, e]; rfl
  obtain ⟨b, x, y, z, rfl⟩ := AT_3 hA hna
  have hbm := hd_mem _ hA
  have hb := (AT_mem _ hA _ hbm).1
  obtain ⟨hdx, hdy, hdz⟩ := dpt3 h.1
  have e' : s.2 9 (b : Int) = 11 := e
  have h5 := h.2.2.2.2.1
  rw [len3] at h5
  have hbx : hd (Term.add (Term.add (Term.add (Term.index b) x) y) z) ∉ (([] ++ fl x) ++ fl y) ++ fl z := fun q => by
    have hnd1 : ((([(b : Int)] ++ fl x) ++ fl y) ++ fl z).Nodup := hnd
    have q : (b : Int) ∈ ((fl x ++ fl y) ++ fl z) := q
    rw [List.append_assoc, List.append_assoc] at hnd1
    rw [List.append_assoc] at q
    exact (List.nodup_append.mp hnd1).2.2 _ (List.mem_singleton.mpr rfl) _ q rfl
  refine by_maked (M := jpk (jds s x) (jds s y) (jds s z) b A (jin (hd (Term.add (Term.add (Term.add (Term.index b) x) y) z)) A J)) h rfl (fun s0 st => ?_)
  obtain ⟨q9, q10, q11, q12, q13, q14, q2, qK, qx⟩ := ST_samed st
  refine dmk_8 (HTm h) (by rw [q9]; exact e) (D92 (HTm h) (HTr h) (by rw [q9]; exact e) ?_)
  rw [q14, (kid3 hA).1]
  refine (ST_ad hn h hA.1.1 ⟨fl y ++ fl z, List.append_assoc (fl (.add (.index b) x)) (fl y) (fl z)⟩ rfl hdx st (A' := some .thrown) (k_const qK).2.2 (Nat.le_refl _) (fun r v st1 hx1 hv1 hk1 => ?_))
  obtain ⟨r9, r10, r11, r12, r13, r14, r2, rK, rx⟩ := ST_samed st1
  refine ⟨by rw [r9, q9], ?_⟩
  rw [r14, (kid3 hA).2.1]
  refine ST_bd hn h hA.1 ⟨_, rfl⟩ rfl hdy st1 (A' := A) (aK_x rx hKJ h.2.2.2.1) (Nat.le_refl _) (fun r' u st2 hx2 hv2 hk2 => ?_)
  obtain ⟨u9, u10, u11, u12, u13, u14, u2, uK, ux⟩ := ST_samed st2
  refine ⟨by rw [u9, q9], ?_⟩
  rw [u14, (kid3 hA).2.2]
  refine ST_cd hn h hA ⟨[], by simp⟩ rfl hdz st2 (A' := A) (aK_x ux hKJ h.2.2.2.1) (Nat.le_refl _) (fun r'' w st3 hx3 hv3 hk3 => ?_)
  obtain ⟨w9, w10, w11, w12, w13, w14, w2, wK, wx⟩ := ST_samed st3
  have rb := st3.2.2.2.2
  rw [List.nil_append, List.length_append, List.length_append] at rb
  have hv2' := kext_vk hx3 hv2
  have hk2' := (kext_kt hx3 uK hv2).trans hk2
  cases A with
  | none =>
    refine ⟨fun _ => ?_, fun q => absurd h.2.2.2.1 q⟩
    have s2 := (wK.at hv2').1.2
    refine cjm (areMeeting_okd wK (by omega) hv2' hv3) (by omega) ?_
    rintro r22 w' ⟨rfl, rfl⟩
    rw [hk2', hk3]
    cases hm : kmt (jds s y none (jds s x (some .thrown) (jin (hd (Term.add (Term.add (Term.add (Term.index b) x) y) z)) none J)).1).2 (jds s z none (jds s y none (jds s x (some .thrown) (jin (hd (Term.add (Term.add (Term.add (Term.index b) x) y) z)) none J)).1).1).2 with
    | true =>
      refine ⟨fun q => absurd q (by decide), fun _ => ?_⟩
      refine cjm (together_okd wK hv2' hv3 (by rw [hk2', hk3]; exact hm) (by omega)) (by omega) ?_
      rintro r2 m ⟨m1, m2, m3, m4, m5, m6⟩
      have hM : jpk (jds s x) (jds s y) (jds s z) b none (jin (hd (Term.add (Term.add (Term.add (Term.index b) x) y) z)) none J) = (_, _) := if_pos hm
      rw [hM]
      exact MP_0d st3 hnd h.2.2.2.1 hKJ dn3 (by rw [len3]; simp; omega) (JX.kx m1 m2 m3) (by omega) m5 (by rw [m6, hk2', hk3])
    | false =>
      refine ⟨fun _ => ?_, fun q => absurd rfl q⟩
      have hM : jpk (jds s x) (jds s y) (jds s z) b none (jin (hd (Term.add (Term.add (Term.add (Term.index b) x) y) z)) none J) = (jsr _ (hd (Term.add (Term.add (Term.add (Term.index b) x) y) z)) 5, .null) := if_neg (by rw [hm]; decide)
      rw [hM]
      have wK' : KJs (ua w' 21 (hd (Term.add (Term.add (Term.add (Term.index b) x) y) z)) 5) := wK
      exact MP_rd st3 hnd h.2.2.2.1 hKJ hSl hbm hbx ⟨by omega, by omega⟩ dn3 (by rw [len3]; simp; omega) (JX.rf wK') (by show w'.1 3 ≤ w'.1 3 + 20; omega) (k_const wK').1.1 (k_const wK').1.2
  | some T =>
    obtain ⟨av, ak⟩ := id h.2.2.2.1
    have al := av.lt hKJ.1.1.2 hKJ.2.1
    refine ⟨fun q => by omega, fun _ => ?_⟩
    exact MP_0d st3 hnd h.2.2.2.1 hKJ dn3 (by rw [len3]; simp; omega) (JX.rf wK) (by omega) (kext_vk wx av) (by rw [kext_kt wx hKJ av]; exact ak)
/-- every tree -/
theorem jsp_alld : ∀ n, JSPd iv L h0 Ad Tn n := by
  intro n
  induction n with
  | zero => intro ρ t s a A J S h; have := dpt_pos t; omega
  | succ n ih =>
    intro ρ t s a A J S h1 h2 h3 h4 h5 h6
    have hc : CTXd Tn ρ n s t a A J S := ⟨h1, h2, h3, h4, h5, h6⟩
    have hm := (AT_mem t h2.1 _ (hd_mem t h2.1)).2.1
    rcases (show s.2 9 (hd t) = 0 ∨ s.2 9 (hd t) = 1 ∨ s.2 9 (hd t) = 2 ∨ s.2 9 (hd t) = 3 ∨ s.2 9 (hd t) = 4 ∨ s.2 9 (hd t) = 5 ∨ s.2 9 (hd t) = 6 ∨ s.2 9 (hd t) = 7 ∨ s.2 9 (hd t) = 8 ∨ s.2 9 (hd t) = 9 ∨ s.2 9 (hd t) = 10 ∨ s.2 9 (hd t) = 11 ∨ s.2 9 (hd t) = 12 ∨ s.2 9 (hd t) = 13 ∨ s.2 9 (hd t) = 14 ∨ s.2 9 (hd t) = 15 by omega) with e | e | e | e | e | e | e | e | e | e | e | e | e | e | e | e
    · exact jsp_leafd hc (by omega)
    · exact jsp_leafd hc (by omega)
    · exact jsp_leafd hc (by omega)
    · exact jsp_named hc e
    · exact jsp_reckd ih hc (by omega)
    · exact jsp_reckd ih hc (by omega)
    · exact jsp_reckd ih hc (by omega)
    · exact jsp_reckd ih hc (by omega)
    · exact jsp_defd ih hc e
    · exact jsp_used ih hc e
    · exact jsp_letd ih hc e
    · exact jsp_pickd ih hc e
    · exact jsp_paird ih hc e
    · exact jsp_halfd ih hc (by omega)
    · exact jsp_halfd ih hc (by omega)
    · exact jsp_toldd ih hc e
end
