/-! DEF, PAIR, PICK; then every tree. -/
section
variable {iv : List (Int × Int)} {L : Nat} {h0 : MH} {n : Nat} {s : SM} {t : Term} {a : Int} {A : Option Term} {J : JT} {S : Int → Prop}
theorem jsp_def (hn : JSP iv L h0 n) (h : CTX n s t a A J S) (e : s.2 9 (hd t) = 8) : cm iv L h0 (3 * (n + 1) + 45) 88 [vr 307, vi (hd t), vi a] s (qi (POST s t A J S)) := by
  obtain ⟨hA, hf, hnd, htd, hDP⟩ := id h.2.1
  obtain ⟨hKJ, hBO, hJR, hSl⟩ := id h.2.2.1
  have hna : na t = 1 := by rw [hf, e]; rfl
  obtain ⟨b, x, rfl⟩ := AT_1 hA hna
  have hbm := hd_mem _ hA
  have hb := (AT_mem _ hA _ hbm).1
  have hdx : dpt x ≤ n := by have := h.1; have e : dpt (Term.add (Term.index b) x) = max 1 (dpt x + 1) := rfl; omega
  have htt := htd _ hbm (Or.inl e)
  have e' : s.2 9 (b : Int) = 8 := e
  have hbx : hd (Term.add (Term.index b) x) ∉ [] ++ fl x := fun q => (List.nodup_append.mp hnd).2.2 _ (List.mem_singleton.mpr rfl) _ q rfl
  have h5 := h.2.2.2.2
  rw [len1] at h5
  refine by_make (M := jdf (jds s x) b (kks s (s.2 11 b)) A (jin (hd (Term.add (Term.index b) x)) A J)) h ?_ (fun s0 st => ?_)
  · show jen (s.2 9 b) b A _ = _
    rw [if_pos e']
    rfl
  · obtain ⟨q9, q10, q11, q12, q13, q14, q2, qK, qx⟩ := ST_same st
    have hv : vks s (s.2 11 (hd (Term.add (Term.index b) x))) := Or.inl htt
    have hk0 : kks s (s.2 11 b) = kts s (s.2 11 (hd (Term.add (Term.index b) x))) := kks_told htt
    refine mk_5 hb (by rw [q9]; exact e) ?_
    rw [q14, (kid1 hA).1]
    have plain : ∀ (a' : Int) (A' : Option Term), aK s0 a' A' → jdf (jds s x) b (kks s (s.2 11 b)) A (jin (hd (Term.add (Term.index b) x)) A J) = ((jds s x A' (jin (hd (Term.add (Term.index b) x)) A J)).1, kmk 3 (kks s (s.2 11 b)) (jds s x A' (jin (hd (Term.add (Term.index b) x)) A J)).2) →
        cm iv L h0 (3 * n + 45) 88 [vr 307, vi (hd x), vi a'] s0 (qi fun r v => cm iv L h0 (3 * n + 45) 65 [vr 307, vi 3, vi (s0.2 11 (hd (Term.add (Term.index b) x))), vi r] v (qi fun r2 w => MPOST s (Term.add (Term.index b) x) A (jdf (jds s x) b (kks s (s.2 11 b)) A (jin (hd (Term.add (Term.index b) x)) A J)) S r2 w)) := fun a' A' ha' hM => by
      refine ST_a hn h hA ⟨[], by simp⟩ rfl hdx st ha' (Nat.le_refl _) (fun r v st1 hx1 hv1 hk1 => ?_)
      obtain ⟨r9, r10, r11, r12, r13, r14, r2, rK, rx⟩ := ST_same st1
      have rb := st1.2.2.2.2
      rw [List.nil_append] at rb
      rw [q11]
      refine wci_mono (makeKind_ok rK (Or.inl rfl) (kext_vk rx hv) hv1 (by omega)) (by omega) ?_
      rintro r2 w ⟨w1, w2, w3, w4, w5, w6⟩
      rw [hM]
      exact MP_0 st1 hnd h.2.2.2.1 hKJ dn1 (by rw [len1]; simp; omega) (JX.kx w1 w2 w3) (by omega) w5 (by rw [w6, kext_kt rx hKJ hv, ← hk0, hk1])
    refine B90 ⟨hb, fun ha1 => ?_, fun ha1 => ?_⟩
    · cases A with
      | none => exact ⟨fun _ => plain _ none rfl rfl, fun q => by omega⟩
      | some T =>
        exfalso
        have := h.2.2.2.1.1.lt hKJ.1.1.2 hKJ.2.1
        omega
    · cases A with
      | none => exact absurd h.2.2.2.1 ha1
      | some T =>
        obtain ⟨av, ak⟩ := id h.2.2.2.1
        have av0 := kext_vk qx av
        have al := av0.lt qK.1.1.2 qK.2.1
        have eT : kts s0 a = T := (kext_kt qx hKJ av).trans ak
        have hM0 := (k_const qK).1.2
        have h03 := st.2.2.2.2
        simp only [List.length_nil] at h03
        refine ⟨by omega, fun k3 => ?_, fun k3 => ?_⟩
        · rcases kt_cases qK av0 with ⟨k4, kr, kk⟩ | ⟨k4, kk⟩ | ⟨k4, kk⟩ | ⟨k4, kk, va, vb⟩ | ⟨k4, kk, va, vb⟩
          · rw [eT] at kk
            subst kk
            exact ⟨fun q => absurd kr q, fun _ => plain _ (some .null) (k_const qK).1 rfl⟩
          · have hr0 : a ≠ 0 := fun q => by rw [q, hM0] at kk; cases kk
            rw [eT] at kk
            subst kk
            exact ⟨fun _ => plain _ none rfl rfl, fun q => absurd q hr0⟩
          · have hr0 : a ≠ 0 := fun q => by rw [q, hM0] at kk; cases kk
            rw [eT] at kk
            subst kk
            exact ⟨fun _ => plain _ none rfl rfl, fun q => absurd q hr0⟩
          · exact absurd k4 k3
          · have hr0 : a ≠ 0 := fun q => by rw [q, hM0] at kk; cases kk
            rw [eT] at kk
            subst kk
            exact ⟨fun _ => plain _ none rfl rfl, fun q => absurd q hr0⟩
        · rcases kt_cases qK av0 with ⟨k4, kr, kk⟩ | ⟨k4, kk⟩ | ⟨k4, kk⟩ | ⟨k4, kk, va, vb⟩ | ⟨k4, kk, va, vb⟩
          · omega
          · omega
          · omega
          · refine ST_a hn h hA ⟨[], by simp⟩ rfl hdx st (A' := some (kts s0 (s0.2 6 a))) ⟨vb, rfl⟩ (Nat.le_refl _) (fun r v st1 hx1 hv1 hk1 => ?_)
            obtain ⟨r9, r10, r11, r12, r13, r14, r2, rK, rx⟩ := ST_same st1
            have rb := st1.2.2.2.2
            rw [List.nil_append] at rb
            rw [q11, (hx1.2.2 a al.2).2.1]
            have htv := kext_vk rx hv
            refine wci_mono (areMeeting_ok rK (by omega) 40 _ _ (rK.at htv).1.2 htv (kext_vk hx1 va)) (by omega) ?_
            rintro r22 w ⟨rfl, rfl⟩
            rw [kext_kt rx hKJ hv, kext_kt hx1 qK va, ← hk0]
            have mk : ∀ (z : Int), (0 ≤ z ∧ z ≤ 6) → jdf (jds s x) b (kks s (s.2 11 b)) (some T) (jin (hd (Term.add (Term.index b) x)) (some T) J) = (jsr (jds s x (some (kts s0 (s0.2 6 a))) (jin (hd (Term.add (Term.index b) x)) (some T) J)).1 (hd (Term.add (Term.index b) x)) z, kmk 3 (kks s (s.2 11 b)) (jds s x (some (kts s0 (s0.2 6 a))) (jin (hd (Term.add (Term.index b) x)) (some T) J)).2) →
                cm iv L h0 (3 * n + 45) 65 [vr 307, vi 3, vi (s.2 11 (hd (Term.add (Term.index b) x))), vi r] (ua w 21 (hd (Term.add (Term.index b) x)) z) (qi fun r2 u => MPOST s (Term.add (Term.index b) x) (some T) (jdf (jds s x) b (kks s (s.2 11 b)) (some T) (jin (hd (Term.add (Term.index b) x)) (some T) J)) S r2 u) := fun z hz hM => by
              have rK' : KJs (ua w 21 (hd (Term.add (Term.index b) x)) z) := rK
              refine wci_mono (makeKind_ok rK' (Or.inl rfl) htv hv1 (by show w.1 3 < 6000; omega)) (by omega) ?_
              rintro r2 u ⟨w1, w2, w3, w4, w5, w6⟩
              have w4 : u.1 3 ≤ w.1 3 + 1 := w4
              have w6 : kts u r2 = kmk 3 (kts w (s.2 11 (hd (Term.add (Term.index b) x)))) (kts w r) := w6
              rw [hM]
              exact MP_r st1 hnd h.2.2.2.1 hKJ hSl hbm hbx hz dn1 (by rw [len1]; simp; omega) (JX.kx w1 w2 w3) (by omega) w5 (by rw [w6, kext_kt rx hKJ hv, ← hk0, hk1])
            have hT : T = .add (kts s0 (s0.2 5 a)) (kts s0 (s0.2 6 a)) := eT.symm.trans kk
            cases hm : kmt (kks s (s.2 11 b)) (kts s0 (s0.2 5 a)) with
            | true =>
              refine ⟨fun q => absurd q (by decide), fun _ => mk 0 ⟨by omega, by omega⟩ ?_⟩
              rw [hT]
              unfold jdf
              simp only [hm]
              rfl
            | false =>
              refine ⟨fun _ => mk 4 ⟨by omega, by omega⟩ ?_, fun q => absurd rfl q⟩
              rw [hT]
              unfold jdf
              simp only [hm]
              rfl
          · omega
end
