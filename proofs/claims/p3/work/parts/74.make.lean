/-! What a judging leaves alone; the parts of a node one behind another. -/
def AG (J K : JT) (x : Int) : Prop := J.1 x = K.1 x ∧ J.2.1 x = K.2.1 x ∧ J.2.2 x = K.2.2 x
theorem AG.rf {J : JT} {x : Int} : AG J J x := ⟨rfl, rfl, rfl⟩
theorem AG.tr {J K M : JT} {x : Int} (h1 : AG J K x) (h2 : AG K M x) : AG J M x := ⟨h1.1.trans h2.1, h1.2.1.trans h2.2.1, h1.2.2.trans h2.2.2⟩
theorem AG_jsr {J : JT} {b z x : Int} (h : x ≠ b) : AG (jsr J b z) J x := ⟨rfl, rfl, if_neg h⟩
theorem AG_jsn {J : JT} {b z x : Int} (h : x ≠ b) : AG (jsn J b z) J x := by
  unfold jsn
  split
  · exact AG_jsr h
  · exact AG.rf
theorem AG_jin {J : JT} {b x : Int} {A : Option Term} (h : x ≠ b) : AG (jin b A J) J x := ⟨rfl, if_neg h, if_neg h⟩
theorem AG_jen {M : JT × Term} {J : JT} {sb b x : Int} {A : Option Term} (h : x ≠ b) (hM : AG M.1 J x) : AG (jen sb b A M).1 J x := by
  have h1 : AG (jmd b M.2 M.1) M.1 x := ⟨if_neg h, rfl, rfl⟩
  refine AG.tr ?_ (h1.tr hM)
  show AG (jcl sb b A M.2 (jmd b M.2 M.1)) _ x
  cases A with
  | none => exact AG.rf
  | some a =>
    unfold jcl
    simp only
    split
    · exact AG_jsr h
    · exact AG.rf
def JFO (f : JF) (l : List Int) : Prop := ∀ (A : Option Term) (J : JT) (x : Int), x ∉ l → AG (f A J).1 J x
theorem AG_jdf {r0 : JF} {l0 : List Int} (h0 : JFO r0 l0) {b x : Int} {k : Term} {A : Option Term} {J : JT} (hb : x ≠ b) (hx : x ∉ l0) : AG (jdf r0 b k A J).1 J x := by
  unfold jdf
  split
  · exact (AG_jsr hb).tr (h0 _ _ x hx)
  · exact h0 _ _ x hx
theorem AG_jus {r0 r1 : JF} {l0 l1 : List Int} (h0 : JFO r0 l0) (h1 : JFO r1 l1) {p0 x : Int} {J : JT} (hp : p0 ∈ l0) (hx0 : x ∉ l0) (hx1 : x ∉ l1) : AG (jus r0 r1 p0 J).1 J x := by
  unfold jus
  split
  · exact (h1 _ _ x hx1).tr (h0 _ _ x hx0)
  · exact (h1 _ _ x hx1).tr (h0 _ _ x hx0)
  · exact (h1 _ _ x hx1).tr ((AG_jsn (fun e => hx0 (by rw [e]; exact hp))).tr (h0 _ _ x hx0))
theorem AG_jpk {r0 r1 r2 : JF} {l0 l1 l2 : List Int} (h0 : JFO r0 l0) (h1 : JFO r1 l1) (h2 : JFO r2 l2) {b x : Int} {A : Option Term} {J : JT} (hb : x ≠ b) (hx0 : x ∉ l0) (hx1 : x ∉ l1) (hx2 : x ∉ l2) : AG (jpk r0 r1 r2 b A J).1 J x := by
  unfold jpk
  split
  · exact (h2 _ _ x hx2).tr ((h1 _ _ x hx1).tr (h0 _ _ x hx0))
  · split
    · exact (h2 _ _ x hx2).tr ((h1 _ _ x hx1).tr (h0 _ _ x hx0))
    · exact (AG_jsr hb).tr ((h2 _ _ x hx2).tr ((h1 _ _ x hx1).tr (h0 _ _ x hx0)))
theorem AG_jpr {r0 r1 : JF} {l0 l1 : List Int} (h0 : JFO r0 l0) (h1 : JFO r1 l1) {x : Int} {A : Option Term} {J : JT} (hx0 : x ∉ l0) (hx1 : x ∉ l1) : AG (jpr r0 r1 A J).1 J x := by
  unfold jpr
  split
  · exact (h1 _ _ x hx1).tr (h0 _ _ x hx0)
  · exact (h1 _ _ x hx1).tr (h0 _ _ x hx0)
theorem AG_jhf {r0 : JF} {l0 : List Int} (h0 : JFO r0 l0) {p0 sb x : Int} {J : JT} (hp : p0 ∈ l0) (hx0 : x ∉ l0) : AG (jhf r0 p0 sb J).1 J x := by
  unfold jhf
  split
  · exact h0 _ _ x hx0
  · exact h0 _ _ x hx0
  · exact (AG_jsn (fun e => hx0 (by rw [e]; exact hp))).tr (h0 _ _ x hx0)
theorem jd_out {so nu td pa up pl : Int → Int} {kk : Int → Term} {bd : Int → Int → Int} {B : Int} : ∀ (n : Nat) (t : Term), dpt t ≤ n → AT so pa up pl B t → JFO (jd so nu td pa kk bd t) (fl t) := by
  intro n
  induction n with
  | zero => intro t h; have := dpt_pos t; omega
  | succ n ih =>
    intro t hn hA A J x hx
    have key0 : ∀ b : Nat, x ∉ fl (Term.index b) → AG (jd so nu td pa kk bd (Term.index b) A J).1 J x := fun b hx => by
      have hb : x ≠ (b : Int) := fun e => hx (List.mem_singleton.mpr e)
      refine AG_jen hb ?_
      split
      · exact AG_jin hb
      · split
        · exact AG_jin hb
        · split
          · exact AG_jin hb
          · unfold jnm
            split
            · exact (AG_jsr hb).tr (AG_jin hb)
            · split
              · exact AG_jin hb
              · exact AG_jin hb
    cases t with
    | index b => exact key0 b hx
    | add t1 y =>
      have hy := hA.2.1
      have hd1 : dpt (Term.add t1 y) = max (dpt t1) (dpt y + 1) := rfl
      have hxy : x ∉ fl y := fun q => hx (List.mem_append_right _ q)
      have fy := ih y (by omega) hy
      cases t1 with
      | index b =>
        have hb : x ≠ (b : Int) := fun e => hx (List.mem_append_left _ (List.mem_singleton.mpr e))
        refine AG_jen hb ?_
        split
        · exact (AG_jdf fy hb hxy).tr (AG_jin hb)
        · split
          · exact (fy _ _ x hxy).tr (AG_jin hb)
          · exact (AG_jhf fy (hd_mem y hy) hxy).tr (AG_jin hb)
      | add t2 z =>
        have hz := hA.1.2.1
        have hd2 : dpt (Term.add t2 z) = max (dpt t2) (dpt z + 1) := rfl
        have hxz : x ∉ fl z := fun q => hx (List.mem_append_left _ (List.mem_append_right _ q))
        have fz := ih z (by omega) hz
        cases t2 with
        | index b =>
          have hb : x ≠ (b : Int) := fun e => hx (List.mem_append_left _ (List.mem_append_left _ (List.mem_singleton.mpr e)))
          refine AG_jen hb ?_
          split
          · exact (AG_jus fz fy (hd_mem z hz) hxz hxy).tr (AG_jin hb)
          · split
            · exact (fy _ _ x hxy).tr ((fz _ _ x hxz).tr (AG_jin hb))
            · split
              · exact (AG_jpr fz fy hxz hxy).tr (AG_jin hb)
              · exact (fy _ _ x hxy).tr ((fz _ _ x hxz).tr (AG_jin hb))
        | add t3 v =>
          have hv := hA.1.1.2.1
          have hd3 : dpt (Term.add t3 v) = max (dpt t3) (dpt v + 1) := rfl
          have hxv : x ∉ fl v := fun q => hx (List.mem_append_left _ (List.mem_append_left _ (List.mem_append_right _ q)))
          have fv := ih v (by omega) hv
          cases t3 with
          | index b =>
            have hb : x ≠ (b : Int) := fun e => hx (List.mem_append_left _ (List.mem_append_left _ (List.mem_append_left _ (List.mem_singleton.mpr e))))
            refine AG_jen hb ?_
            exact (AG_jpk fv fz fy hb hxv hxz hxy).tr (AG_jin hb)
          | _ => exact AG.rf
        | _ => exact AG.rf
      | _ => exact AG.rf
    | _ => exact AG.rf
/-- trees by their parts -/
theorem AT_0 {so pa up pl : Int → Int} {B : Int} {t : Term} (h : AT so pa up pl B t) (hn : na t = 0) : ∃ b : Nat, t = .index b := by
  cases t with
  | index b => exact ⟨b, rfl⟩
  | add t x => exfalso; have := na_ge t; have hn : na t + 1 = 0 := hn; omega
  | _ => exact h.elim
theorem AT_1 {so pa up pl : Int → Int} {B : Int} {t : Term} (h : AT so pa up pl B t) (hn : na t = 1) : ∃ (b : Nat) (x : Term), t = .add (.index b) x := by
  cases t with
  | index b => exact absurd hn (by show ¬ ((0 : Int) = 1); decide)
  | add t x =>
    have hn : na t + 1 = 1 := hn
    obtain ⟨b, rfl⟩ := AT_0 h.1 (by omega)
    exact ⟨b, x, rfl⟩
  | _ => exact h.elim
theorem AT_2 {so pa up pl : Int → Int} {B : Int} {t : Term} (h : AT so pa up pl B t) (hn : na t = 2) : ∃ (b : Nat) (x y : Term), t = .add (.add (.index b) x) y := by
  cases t with
  | index b => exact absurd hn (by show ¬ ((0 : Int) = 2); decide)
  | add t x =>
    have hn : na t + 1 = 2 := hn
    obtain ⟨b, y, rfl⟩ := AT_1 h.1 (by omega)
    exact ⟨b, y, x, rfl⟩
  | _ => exact h.elim
theorem AT_3 {so pa up pl : Int → Int} {B : Int} {t : Term} (h : AT so pa up pl B t) (hn : na t = 3) : ∃ (b : Nat) (x y z : Term), t = .add (.add (.add (.index b) x) y) z := by
  cases t with
  | index b => exact absurd hn (by show ¬ ((0 : Int) = 3); decide)
  | add t x =>
    have hn : na t + 1 = 3 := hn
    obtain ⟨b, y, z, rfl⟩ := AT_2 h.1 (by omega)
    exact ⟨b, y, z, x, rfl⟩
  | _ => exact h.elim
/-- a node, some of its parts judged -/
def SJ (s : SM) (t : Term) (a : Int) (A : Option Term) (S : Int → Prop) (dn : List Int) (J : JT) (w : SM) : Prop :=
  JX s w (fl t) ∧ JR w J (fun x => S x ∨ x ∈ dn) ∧ (w.2 20 (hd t) = a ∧ J.2.1 (hd t) = A) ∧ (w.2 21 (hd t) = 0 ∧ J.2.2 (hd t) = 0) ∧ w.1 3 ≤ s.1 3 + 41 * dn.length
theorem ST_0 {s : SM} {t : Term} {a : Int} {A : Option Term} {J : JT} {S : Int → Prop} (hT : PRT s t) (hP : PRJ s (hd t) (fl t) J S) : SJ s t a A S [] (jin (hd t) A J) (ua (ua s 20 (hd t) a) 21 (hd t) 0) := by
  obtain ⟨hA, hf, hnd, htd, hDP⟩ := hT
  obtain ⟨hKJ, hBO, hJR, hSl⟩ := hP
  have hbm := hd_mem t hA
  have hX : JX s (ua (ua s 20 (hd t) a) 21 (hd t) 0) (fl t) := ⟨eqx_ua (eqx_ua eqx.rf (by decide)) (by decide), hKJ, ⟨rfl, Int.le_refl _, fun _ _ => ⟨rfl, rfl, rfl, rfl⟩⟩, fun x hx => by
    have hxt : x ≠ hd t := fun e => hx (by rw [e]; exact hbm)
    simp [ua_2, hxt]⟩
  refine ⟨hX, fun x hx => ?_, ⟨by simp [ua_2], if_pos rfl⟩, ⟨by simp [ua_2], if_pos rfl⟩, by show s.1 3 ≤ _; simp⟩
  have hx : S x := hx.resolve_right (fun q => by cases q)
  have hxt : x ≠ hd t := fun e => hSl x hx (by rw [e]; exact hbm)
  obtain ⟨g1, g2, g3⟩ := AG_jin (J := J) (A := A) hxt
  rw [g1, g2, g3]
  exact JR_x hX hKJ hJR hSl x hx
section
variable {iv : List (Int × Int)} {L : Nat} {h0 : MH}
/-- one part more -/
theorem ST_1 {n : Nat} (hn : JSP iv L h0 n) {s w : SM} {t u y : Term} {a a' : Int} {A A' : Option Term} {J J' : JT} {S : Int → Prop} {dn : List Int} {d : Nat} {F : Int → SM → Prop} (hT : PRT s t) (hP : PRJ s (hd t) (fl t) J S) (hst : SJ s t a A S dn J' w)
    (hA : ATj s (.add u y)) (hsub : ∃ r, fl t = fl (.add u y) ++ r) (hhd : hd u = hd t) (hdn : ∀ x, x ∈ dn → x ∈ fl u) (hL : s.2 9 (hd t) = 10 → na u = 1 → s.2 14 (3 * hd t) ∈ dn) (hdp : dpt y ≤ n) (hbd : s.1 3 + 41 * (dn.length + (fl y).length : Nat) ≤ 6000) (ha : aK w a' A') (hd1 : 3 * n + 45 ≤ d)
    (hgo : ∀ r v, SJ s t a A S (dn ++ fl y) (jds s y A' J').1 v → kext w v → vks v r → kts v r = (jds s y A' J').2 → F r v) : cm iv L h0 d 88 [vr 307, vi (hd y), vi a'] w (qi F) := by
  obtain ⟨hX, hR, ⟨hk1, hk2⟩, ⟨hr1, hr2⟩, hb⟩ := hst
  obtain ⟨hTA, hf, hnd, htd, hDP⟩ := hT
  obtain ⟨hKJ, hBO, hJR, hSl⟩ := hP
  obtain ⟨r0, hr0⟩ := hsub
  have hndy : (fl (.add u y)).Nodup := by rw [hr0] at hnd; exact (List.nodup_append.mp hnd).1
  have hmem : ∀ x, x ∈ fl (.add u y) → x ∈ fl t := fun x hx => by rw [hr0]; exact List.mem_append_left _ hx
  have hym : ∀ x, x ∈ fl y → x ∈ fl t := fun x hx => hmem x (List.mem_append_right _ hx)
  obtain ⟨d1, d2, d3⟩ := List.nodup_append.mp hndy
  have huy : ∀ x, x ∈ fl u → x ∉ fl y := fun x hx q => d3 x hx x q rfl
  have hbu : hd t ∈ fl u := by rw [← hhd]; exact hd_mem u hA.1
  have hby : hd t ∉ fl y := huy _ hbu
  have hKw := hX.2.1
  have hPy : PRT s y := kid_T hA hndy (fun x hx => htd x (hmem x hx)) (fun x hx => hDP x (hmem x hx))
  have hBy : ∀ x, BOK w (fun x => S x ∨ x ∈ dn) (bds w (hd y) x) := fun x => by
    rw [bds_x hX]
    refine BOK_x hX (kid_B (S := S) (S' := fun x => S x ∨ x ∈ dn) hA (by rw [hhd]; exact fun e => htd _ (hmem _ (List.mem_append_left _ hbu)) (Or.inl e)) ?_ (by rw [hhd]; exact hBO) (fun x q => Or.inl q) ?_ x)
    · rw [hhd]
      have h70 := hDP (hd y) (hym _ (hd_mem y hA.2.1))
      obtain ⟨-, -, -, -, -, e6, -⟩ := hA
      have h71 : s.2 12 (hd y) = -9 ∨ ((0 ≤ s.2 12 (hd y) ∧ s.2 12 (hd y) < 3004) ∧ DP (s.2 12) 69 (s.2 12 (hd y))) := h70
      rw [e6, hhd] at h71
      rcases h71 with q | q
      · have := (AT_mem t hTA _ (hd_mem t hTA)).1
        omega
      · exact q.2
    · rw [hhd]
      intro e10 e1
      have hm := hL e10 e1
      have hm2 := (AT_mem t hTA _ (hmem _ (List.mem_append_left _ (hdn _ hm)))).1
      exact ⟨Or.inr hm, hm2⟩
  have hSy : ∀ x, (S x ∨ x ∈ dn) → x ∉ fl y := fun x hx => hx.elim (fun q w => hSl x q (hym x w)) (fun q => huy x (hdn x q))
  have spec := hn y w a' A' J' (fun x => S x ∨ x ∈ dn) hdp (PRT_x hX hPy) ⟨hKw, hBy, hR, hSy⟩ ha (by push_cast at hbd; omega)
  refine wci_mono spec hd1 ?_
  rintro r v ⟨p1, p2, ⟨p3, p4⟩, p5⟩
  rw [jds_x hX hKJ] at p4 p5
  have out := jd_out (so := s.2 9) (nu := s.2 10) (td := s.2 11) (pa := s.2 14) (kk := kks s) (bd := bds s) (dpt y) y (Nat.le_refl _) hA.2.1 A' J' (hd t) hby
  obtain ⟨o1, o2, o3⟩ := p1.2.2.2 (hd t) hby
  refine hgo r v ⟨hX.tr (p1.up hym), JR_mono p5 (fun x hx => ?_), ⟨by rw [o2]; exact hk1, ?_⟩, ⟨by rw [o3]; exact hr1, ?_⟩, ?_⟩ p1.2.2.1 p3 p4
  · rcases hx with q | q
    · exact Or.inl (Or.inl q)
    · rcases List.mem_append.mp q with q | q
      · exact Or.inl (Or.inr q)
      · exact Or.inr q
  · exact out.2.1.trans hk2
  · exact out.2.2.trans hr2
  · rw [List.length_append]; push_cast; omega
end
/-- all parts judged: what the making comes to -/
theorem MP_0 {s w : SM} {t : Term} {a r : Int} {A : Option Term} {S : Int → Prop} {dn : List Int} {J : JT} {m : Term} (hst : SJ s t a A S dn J w) (hnd : (fl t).Nodup) (ha : aK s a A) (hKJ : KJs s) (hdn : ∀ x, x ∈ fl t → x ≠ hd t → x ∈ dn) (hlen : dn.length + 1 ≤ (fl t).length) {w' : SM} (hX : JX w w' []) (hb : w'.1 3 ≤ w.1 3 + 41) (hv : vks w' r) (hk : kts w' r = m) : MPOST s t A (J, m) S r w' := by
  obtain ⟨h1, h2, ⟨h3, h4⟩, ⟨h5, h6⟩, h7⟩ := hst
  obtain ⟨o1, o2, o3⟩ := hX.2.2.2 (hd t) (by simp)
  refine ⟨h1.tr (hX.up (fun x q => by cases q)), by omega, ⟨hv, hk⟩, JR_mono (JR_x hX h1.2.1 h2 (fun x _ q => by cases q)) (fun x hx => hx.imp id (fun q => hdn x q.1 q.2)), ⟨?_, h4⟩, ?_⟩
  · rw [o2, h3]
    exact aK_x hX.2.2.1 h1.2.1 (aK_x h1.2.2.1 hKJ ha)
  · show w'.2 21 (hd t) = J.2.2 (hd t) ∧ 0 ≤ J.2.2 (hd t) ∧ J.2.2 (hd t) ≤ 6
    rw [o3, h5, h6]
    omega
/-- .. with a reason of its own -/
theorem MP_r {s w : SM} {t : Term} {a r z : Int} {A : Option Term} {S : Int → Prop} {dn : List Int} {J : JT} {m : Term} (hst : SJ s t a A S dn J w) (hnd : (fl t).Nodup) (ha : aK s a A) (hKJ : KJs s) (hSl : ∀ x, S x → x ∉ fl t) (hb0 : hd t ∈ fl t) (hbd : hd t ∉ dn) (hz : 0 ≤ z ∧ z ≤ 6) (hdn : ∀ x, x ∈ fl t → x ≠ hd t → x ∈ dn) (hlen : dn.length + 1 ≤ (fl t).length) {w' : SM} (hX : JX (ua w 21 (hd t) z) w' []) (hb : w'.1 3 ≤ w.1 3 + 41) (hv : vks w' r) (hk : kts w' r = m) : MPOST s t A (jsr J (hd t) z, m) S r w' := by
  obtain ⟨h1, h2, ⟨h3, h4⟩, ⟨h5, h6⟩, h7⟩ := hst
  have hX0 : JX w (ua w 21 (hd t) z) (fl t) := ⟨eqx_ua eqx.rf (by decide), h1.2.1, ⟨rfl, Int.le_refl _, fun _ _ => ⟨rfl, rfl, rfl, rfl⟩⟩, fun x hx => by
    have hxt : x ≠ hd t := fun e => hx (by rw [e]; exact hb0)
    simp [ua_2, hxt]⟩
  have hX2 : JX w w' (fl t) := hX0.tr (hX.up (fun x q => by cases q))
  obtain ⟨o1, o2, o3⟩ := hX.2.2.2 (hd t) (by simp)
  have e20 : (ua w 21 (hd t) z).2 20 (hd t) = w.2 20 (hd t) := by simp [ua_2]
  have e21 : (ua w 21 (hd t) z).2 21 (hd t) = z := by simp [ua_2]
  refine ⟨h1.tr hX2, by omega, ⟨hv, hk⟩, fun x hx => ?_, ⟨?_, h4⟩, ?_⟩
  · have hxb : x ≠ hd t := by
      rcases hx with q | q
      · exact fun e => hSl x q (by rw [e]; exact hb0)
      · exact q.2
    obtain ⟨⟨a1, a2⟩, a3, a4⟩ := h2 x (hx.imp id (fun q => hdn x q.1 q.2))
    obtain ⟨b1, b2, b3⟩ := hX.2.2.2 x (by simp)
    have c1 : (ua w 21 (hd t) z).2 19 x = w.2 19 x := by simp [ua_2]
    have c2 : (ua w 21 (hd t) z).2 20 x = w.2 20 x := by simp [ua_2]
    have c3 : (ua w 21 (hd t) z).2 21 x = w.2 21 x := by simp [ua_2, hxb]
    obtain ⟨g1, g2, g3⟩ := AG_jsr (J := J) (z := z) hxb
    rw [b1, b2, b3, c1, c2, c3, g1, g2, g3]
    exact ⟨⟨kext_vk hX2.2.2.1 a1, (kext_kt hX2.2.2.1 h1.2.1 a1).trans a2⟩, aK_x hX2.2.2.1 h1.2.1 a3, a4⟩
  · rw [o2, e20, h3]
    exact aK_x hX2.2.2.1 h1.2.1 (aK_x h1.2.2.1 hKJ ha)
  · show w'.2 21 (hd t) = (if hd t = hd t then z else _) ∧ 0 ≤ (if hd t = hd t then z else _) ∧ (if hd t = hd t then z else _) ≤ 6
    rw [if_pos rfl, o3, e21]
    exact ⟨rfl, hz⟩
/-- a part gets a reason, if it has none -/
theorem ST_n {s w w' : SM} {t : Term} {a z p : Int} {A : Option Term} {S : Int → Prop} {dn : List Int} {J : JT} (hst : SJ s t a A S dn J w) (hp : p ∈ dn) (hpt : p ∈ fl t) (hpb : p ≠ hd t) (hz : 0 ≤ z ∧ z ≤ 6) (hw : (w.2 21 p = 0 ∧ w' = ua w 21 p z) ∨ (w.2 21 p ≠ 0 ∧ (w' = w ∨ w' = ua w 21 p (w.2 21 p)))) : SJ s t a A S dn (jsn J p z) w' ∧ kext w w' := by
  obtain ⟨h1, h2, ⟨h3, h4⟩, ⟨h5, h6⟩, h7⟩ := hst
  have hj := (h2 p (Or.inr hp)).2.2.1
  have v21 : ∀ x, w'.2 21 x = if x = p ∧ w.2 21 p = 0 then z else w.2 21 x := fun x => by
    rcases hw with ⟨e, rfl⟩ | ⟨e, rfl | rfl⟩
    · simp [ua_2, e]
    · simp [e]
    · by_cases q : x = p
      · simp [ua_2, q, e]
      · simp [ua_2, q]
  have ve : eqx [] [21] w w' := by
    rcases hw with ⟨e, rfl⟩ | ⟨e, rfl | rfl⟩
    · exact eqx_ua eqx.rf (by decide)
    · exact eqx.rf
    · exact eqx_ua eqx.rf (by decide)
  have v3 := ve.1 3 (by decide)
  have v2 := ve.1 2 (by decide)
  have vK : KJs w' := by
    have := h1.2.1
    unfold KJs at this ⊢
    rw [v2, v3, ve.2 4 (by decide), ve.2 5 (by decide), ve.2 6 (by decide), ve.2 7 (by decide)]
    exact this
  have vx : kext w w' := ⟨v2.symm, by omega, fun k _ => by rw [ve.2 4 (by decide), ve.2 5 (by decide), ve.2 6 (by decide), ve.2 7 (by decide)]; exact ⟨rfl, rfl, rfl, rfl⟩⟩
  have v19 : w'.2 19 = w.2 19 := ve.2 19 (by decide)
  have v20 : w'.2 20 = w.2 20 := ve.2 20 (by decide)
  have jn : ∀ x, (jsn J p z).2.2 x = if x = p ∧ J.2.2 p = 0 then z else J.2.2 x := fun x => by
    unfold jsn
    by_cases e : J.2.2 p = 0
    · rw [if_pos e]
      show (if x = p then z else J.2.2 x) = _
      simp [e]
    · rw [if_neg e, if_neg (fun q => e q.2)]
  have j1 : (jsn J p z).1 = J.1 ∧ (jsn J p z).2.1 = J.2.1 := by
    unfold jsn
    split
    · exact ⟨rfl, rfl⟩
    · exact ⟨rfl, rfl⟩
  refine ⟨⟨h1.tr ⟨ve.up (fun y q => by cases q) (fun f q => by simp at q ⊢; omega), vK, vx, fun x hx => ?_⟩, fun x hx => ?_, ⟨by rw [v20]; exact h3, by rw [j1.2]; exact h4⟩, ⟨by rw [v21, if_neg (fun q => hpb q.1.symm)]; exact h5, by rw [jn, if_neg (fun q => hpb q.1.symm)]; exact h6⟩, by omega⟩, vx⟩
  · have hxp : x ≠ p := fun e => hx (by rw [e]; exact hpt)
    rw [v19, v20, v21, if_neg (fun q => hxp q.1)]
    exact ⟨rfl, rfl, rfl⟩
  · obtain ⟨⟨a1, a2⟩, a3, a4⟩ := h2 x hx
    rw [j1.1, j1.2, jn, v19, v20, v21, hj]
    refine ⟨⟨kext_vk vx a1, (kext_kt vx h1.2.1 a1).trans a2⟩, aK_x vx h1.2.1 a3, ?_⟩
    split
    · exact ⟨rfl, hz⟩
    · exact a4
