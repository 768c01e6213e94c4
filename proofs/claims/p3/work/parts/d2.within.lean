/-! What stands within, how much; rename(), move() by the desk. -/
section
variable {iv : List (Int × Int)} {L : Nat} {h0 : MH} {A A' : Int → Nat} {c e : SC} {s s' : SM} {t : Term} {d : Nat} {P : Int → Prop} {Q : Int → Int → Prop} {K : List Snap}
theorem seq_at (hS : SHT s t) {x : Int} (hx : x ∈ fl t) : ∃ a z r : List Int, fl t = a ++ (fl (sq x t) ++ z) ∧ fl (sq x t) = x :: r ∧ bhs s x = z.headD (-9) := by
  obtain ⟨a, z, e1, -, -⟩ := rpT_fl hS.1 hS.2.2.1 hx
  obtain ⟨b1, b2, b3, b4, b5, b6, b7⟩ := sq_ok hS.1 hS.2.1 hS.2.2.1 hx
  obtain ⟨r, hr⟩ := fl_hd _ b1
  rw [b3] at hr
  refine ⟨a, z, r, e1, hr, ?_⟩
  have h1 := hS.chn
  rw [e1] at h1
  have h2 := (chn_l _ _ _ (chn_l _ _ _ h1).2).1
  have h3 := chn_tree (sq x t) b1 (fun y hy => DP_up 61 70 _ (by decide) (DP_tree hS y (b4 y hy))) (fun y hy hn => by
    have := ((AT_mem _ b1 y hy).2.2.2 hn).1
    exact (hS.m _ (b4 _ this)).1)
  rw [if_neg (by have := b2; unfold full at this; omega), b3] at h3
  exact chn_u _ _ _ (by rw [hr]; simp) h3 h2
theorem rank_at (h1 : LST A c t) {a m : List Int} {x : Int} (e : fl t = a ++ (x :: m)) : fI c (A x) 7 = a.length := (h1.2 a.length x (by rw [e]; simp)).2
theorem sizeAt_c {x : Int} {F : Int → SC → Prop} (h1 : R1 A c s t) (hS : SHT s t) (hx : x ∈ fl t) (hF : F (fl (sq x t)).length c) : ck iv L h0 (d + 1) 209 [vr 70, vr (A x)] c (qi F) := by
  obtain ⟨a, z, r, e1, e2, e3⟩ := seq_at hS hx
  obtain ⟨⟨n1, n2, n3, n4, n5, n6, n7, n8⟩, n9, n10⟩ := h1.1.2.1.2 x (hS.m _ hx).1 (hS.m _ hx).2
  have rx : fI c (A x) 7 = a.length := rank_at h1.1.2.2.2 (m := r ++ z) (by rw [e1, e2]; rfl)
  have hl := hS.2.2.2.1
  have hsz := h1.1.2.2.2.1
  have hlen : (fl t).length = a.length + ((fl (sq x t)).length + z.length) := by rw [e1]; simp
  refine C209 ⟨n1, behind_ok h1.1.2.1 h1.1.2.2.1 hS hx ?_⟩
  rw [e3]
  cases z with
  | nil =>
    have hA : A (([] : List Int).headD (-9)) = 2 := A9 h1.1.2.1
    rw [hA]
    refine ⟨fun q => absurd rfl q, fun _ => ⟨h1.1.1.dk.2.1, n1, ?_⟩⟩
    rw [hsz, rx, hlen]
    refine ⟨by simp; omega, ?_⟩
    have : (((a.length + ((fl (sq x t)).length + ([] : List Int).length) : Nat) : Int)) - a.length = (fl (sq x t)).length := by simp; omega
    rw [this]
    exact hF
  | cons w z =>
    have hw : w ∈ fl t := by rw [e1]; simp
    obtain ⟨⟨m1, m2, m3, m4, m5, m6, m7, m8⟩, m9, m10⟩ := h1.1.2.1.2 w (hS.m _ hw).1 (hS.m _ hw).2
    have rw' : fI c (A w) 7 = ((a ++ fl (sq x t)).length : Nat) := rank_at h1.1.2.2.2 (m := z) (by rw [e1]; simp)
    have hA : A ((w :: z).headD (-9)) = A w := rfl
    rw [hA]
    refine ⟨fun _ => ⟨m1, n1, ?_⟩, fun q => absurd q (h1.1.2.1.ne (hS.m _ hw)).1⟩
    rw [rw', rx, List.length_append]
    refine ⟨by push_cast; omega, ?_⟩
    have : (((a.length + (fl (sq x t)).length : Nat) : Int)) - a.length = (fl (sq x t)).length := by push_cast; omega
    rw [this]
    exact hF
theorem mem_at {a m z : List Int} {j : Nat} {y : Int} (hnd : (a ++ (m ++ z)).Nodup) (hj : (a ++ (m ++ z))[j]? = some y) : y ∈ m ↔ (a.length ≤ j ∧ j < a.length + m.length) := by
  constructor
  · intro hy
    obtain ⟨i, i1, i2⟩ := List.getElem_of_mem hy
    have h2 : (a ++ (m ++ z))[a.length + i]? = some y := by
      rw [List.getElem?_append_right (by omega), List.getElem?_append_left (by omega), List.getElem?_eq_getElem (by omega)]
      simp only [Nat.add_sub_cancel_left]
      rw [i2]
    obtain ⟨j1, j2⟩ := List.getElem?_eq_some_iff.mp hj
    obtain ⟨k1, k2⟩ := List.getElem?_eq_some_iff.mp h2
    have : j = a.length + i := (List.getElem_inj hnd).mp (j2.trans k2.symm)
    omega
  · intro ⟨h1, h2⟩
    rw [List.getElem?_append_right h1, List.getElem?_append_left (by omega)] at hj
    exact List.mem_of_getElem? hj
theorem isWithin_c {y x : Int} {F : Int → SC → Prop} (h1 : R1 A c s t) (hS : SHT s t) (hx : x ∈ fl t) (hy : y ∈ fl t) (H1 : y ∈ fl (sq x t) → F 1 c) (H2 : y ∉ fl (sq x t) → F 0 c) : ck iv L h0 (d + 2) 210 [vr 70, vr (A y), vr (A x)] c (qi F) := by
  obtain ⟨a, z, r, e1, e2, e3⟩ := seq_at hS hx
  obtain ⟨⟨n1, n2, n3, n4, n5, n6, n7, n8⟩, n9, n10⟩ := h1.1.2.1.2 x (hS.m _ hx).1 (hS.m _ hx).2
  obtain ⟨⟨m1, m2, m3, m4, m5, m6, m7, m8⟩, m9, m10⟩ := h1.1.2.1.2 y (hS.m _ hy).1 (hS.m _ hy).2
  have rx : fI c (A x) 7 = a.length := rank_at h1.1.2.2.2 (m := r ++ z) (by rw [e1, e2]; rfl)
  obtain ⟨j, j1, j2⟩ := List.getElem_of_mem hy
  have hj : (fl t)[j]? = some y := by rw [List.getElem?_eq_getElem j1, j2]
  have ry : fI c (A y) 7 = j := (h1.1.2.2.2.2 j y hj).2
  have hmem := mem_at (by rw [← e1]; exact hS.2.2.1) (by rw [← e1]; exact hj)
  have hl := hS.2.2.2.1
  have hlen : (fl t).length = a.length + ((fl (sq x t)).length + z.length) := by rw [e1]; simp
  refine C210 ⟨m1, n1, ?_⟩
  rw [rx, ry]
  refine ⟨fun q => H2 (fun w => by have := hmem.mp w; omega), fun q => ⟨h1.1.1.dk.2.1, sizeAt_c h1 hS hx ⟨by omega, fun w => H2 (fun v => by have := hmem.mp v; omega), fun w => H1 (hmem.mpr ⟨by omega, by omega⟩)⟩⟩⟩
theorem wth_sq (hS : SHT s t) {x : Int} (hx : x ∈ fl t) {y : Int} (hy : y ∈ fl t) : wth7 s y x = true ↔ y ∈ fl (sq x t) := by
  obtain ⟨b1, b2, b3, b4, b5, b6, b7⟩ := sq_ok hS.1 hS.2.1 hS.2.2.1 hx
  constructor
  · have key : ∀ (n : Nat) (y : Int), y ∈ fl t → wth (s.2 12) n y x = true → y ∈ fl (sq x t) := by
      intro n
      induction n with
      | zero => intro y _ h; exact absurd h (by show ¬ (false = true); decide)
      | succ n ih =>
        intro y hy h
        unfold wth at h
        by_cases e : y = x
        · rw [e]
          have := hd_mem _ b1
          rw [b3] at this
          exact this
        · rw [if_neg e] at h
          by_cases e9 : s.2 12 y = -9
          · rw [if_pos e9] at h; exact absurd h (by decide)
          · rw [if_neg e9] at h
            have hn : y ≠ hd t := fun q => e9 (by rw [q]; exact hS.2.2.2.2.2.2.1)
            have hu := hS.up9 hy hn
            have hus := ih _ hu h
            have m := (AT_mem t hS.1 y hy).2.2.2 hn
            have m2 := (AT_mem _ b1 _ hus).2.2.1 (s.2 13 y) m.2.1.1 m.2.1.2 (fun q => by have := b2; unfold full at this; rw [this, ← q]; exact m.2.1.2)
            rw [m.2.2] at m2
            exact m2.1
    exact key 70 y hy
  · intro h; exact sq_wth hS hx h
theorem rename_c {v : Int} {F : Int → SC → Prop} (h1 : R1 A c s t) (hT : AFT s t) (hK : KIs s) (hKS : KSc A c K) (hKP : ∀ u, u ∈ K → KP s u) (hD : 300 ≤ d) (H1 : ¬ renOk s t v → F (renA s t v) c) (H2 : renOk s t v → ∀ e, ACT A c s t K e (rnU s t v) t → F (renA s t v) e) : ck iv L h0 d 17 [vr 64, vi v] c (qi F) := by
  obtain ⟨d, rfl⟩ : ∃ k, d = k + 1 + 1 := ⟨d - 2, by omega⟩
  obtain ⟨⟨d1, d2, d3, d4, d5⟩, e1, e2, e3, e4, e5, e6⟩ := h1.cur hT
  have hS := hT.1
  have hB := hS.2.2.2.2.1
  have hcb := hS.m _ hT.2.2
  have go : (0 ≤ v ∧ v < 26) → (s.2 9 (s.1 16) = 8 ∨ s.2 9 (s.1 16) = 10) → ck iv L h0 (d + 1) 214 [vr 70, vr (A (s.1 16)), vi v] c (qi fun r7 s6 => ((r7 = 0 → (kl s6 64 = 1) ∧ (kl s6 (fR s6 64 1) = 8) ∧ ck iv L h0 (d + 1) 219 [vr (fR s6 64 1)] s6 (qv fun s10 => (kl s10 64 = 1) ∧ (kl s10 (fR s10 64 1) = 8) ∧ ck iv L h0 (d + 1) 215 [vr (fR s10 64 1), vr (A (s.1 16)), vi v] s10 (qi fun r14 s13 => (kl s13 64 = 1) ∧ ck iv L h0 (d + 1) 52 [vr 64] s13 (qv fun s16 => F r14 s16)))) ∧ (r7 ≠ 0 → F (-6) s6))) := fun hv hs => by
    refine catches_ok h1 hT ?_
    by_cases ha : (fl t).any (rnb s v) = true
    · rw [if_pos ha]
      refine ⟨fun q => absurd q (by decide), fun _ => ?_⟩
      have := H1 (fun q => by rw [q.2.2] at ha; exact absurd ha (by decide))
      unfold renA at this
      rw [if_pos (by omega), if_pos hs, if_pos ha] at this
      exact this
    · rw [if_neg ha]
      have ha0 : (fl t).any (rnb s v) = false := by cases h : (fl t).any (rnb s v) with
        | false => rfl
        | true => exact absurd h ha
      have hok : renOk s t v := ⟨by omega, hs, ha0⟩
      have hA : renA s t v = cntp (isB s) (fl t) := by
        unfold renA
        rw [if_pos (by omega), if_pos hs, if_neg ha]
      have H3 := H2 hok
      rw [hA] at H3
      rw [d3]
      refine ⟨fun _ => ⟨d1, d2, rem_ok h1 hT hKS (fun c1 hO1 hK1 hx1 hr1 => ?_)⟩, fun q => absurd rfl q⟩
      have hX1 := hO1.1.1
      obtain ⟨a1, a2, a3, -⟩ := hX1.dk
      have hL1 := h1.1.2.2.2.x h1.1.2.1 hS.m h1.1.1 hx1 (by decide) (by decide) (by decide)
      rw [a3]
      refine ⟨a1, a2, renameAll_ok ⟨hX1, hL1⟩ hT hO1 (fun c2 hO2 hx2 hr2 => ⟨hO2.1.1.dk.1, ?_⟩)⟩
      have hcur : fR c2 70 2 = A (s.1 16) := by
        rw [hx2.r (a := 70) (by have := hX1.2.2.1; omega) (by rw [a2]; decide), hx1.r (a := 70) (by have := h1.1.1.2.2.1; omega) (by rw [d2]; decide)]
        exact e1
      have hAft := ren_aft hT hok
      refine changed0_ok hO2 hcur hAft (KIs_e hK rfl ⟨?_, ?_, ?_, ?_⟩) (fun x hx => hx) (fun x i hx i0 i1 => ⟨hx, i0, by rw [rnU_o (by decide)] at i1; exact i1⟩) (by omega) (fun e g1 g2 g3 g4 => H3 e ⟨A, g1, EXT.rf, (cxa_k hx1).tr ((hx2.up (by decide) (fun _ q => by cases q)).tr (cxa_t g2)), ?_, ?_, g4, (((NWc.rf).x h1.1.1.2.2.1 hx1 hr1 (by decide)).x h1.1.1.2.2.1 hx2 hr2 (by decide)).x h1.1.1.2.2.1 g2 g3 (by decide)⟩)
      · exact rnU_o (by decide)
      · exact rnU_o (by decide)
      · exact rnU_o (by decide)
      · exact rnU_o (by decide)
      · exact ((hr1.tr hr2).tr g3).up (by decide) (by decide)
      · exact hK1.x hX1 EXT.rf hB.1 (kp_push hKP hT) ((hx2.up (ys' := [(5, 4)] ++ tyY) (rs' := srs) (by decide) (fun _ q => by cases q)).tr (g2.up (by decide) (by decide))) (by decide) (by decide)
  have bad : ¬ (0 ≤ v ∧ v < 26) → F (-1) c := fun q => by
    have := H1 (fun w => q (by have := w.1; omega))
    unfold renA at this
    rw [if_neg (by omega)] at this
    exact this
  refine C17 (C40 ⟨fun q => ⟨fun w => absurd rfl w, fun _ => bad (by omega)⟩, fun q => ⟨fun q2 => ⟨fun w => absurd rfl w, fun _ => bad (by omega)⟩, fun q2 => ⟨fun _ => ?_, fun w => absurd w (by decide)⟩⟩⟩)
  rw [d3, e1, e2, e3]
  refine ⟨d1, d2, rfl, fun w => go ⟨q, q2⟩ (Or.inl w), fun w8 => ⟨fun w => go ⟨q, q2⟩ (Or.inr w), fun w10 => ?_⟩⟩
  have := H1 (fun w => w.2.1.elim w8 w10)
  unfold renA at this
  rw [if_pos (by omega), if_neg (by omega)] at this
  exact this
end
