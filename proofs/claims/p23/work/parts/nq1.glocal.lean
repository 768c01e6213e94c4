section
/-! What is asked of a hole and what is put there: judging with a piece in the hole's place, beside judging with the hole. -/
def EQ3 (x : Int) (J K : JT) : Prop := J.1 x = K.1 x ∧ J.2.1 x = K.2.1 x ∧ J.2.2 x = K.2.2 x
section
variable {x b z p0 sb : Int} {J K M : JT} {A : Option Term} {m k : Term} {r0 r1 r2 : JF}
theorem EQ3.rf : EQ3 x J J := ⟨rfl, rfl, rfl⟩
theorem EQ3.tr (h : EQ3 x J K) (g : EQ3 x K M) : EQ3 x J M := ⟨h.1.trans g.1, h.2.1.trans g.2.1, h.2.2.trans g.2.2⟩
theorem jsr_eq (h : x ≠ b) : EQ3 x (jsr J b z) J := ⟨rfl, rfl, if_neg h⟩
theorem jsn_eq (h : x ≠ b) : EQ3 x (jsn J b z) J := by
  unfold jsn
  by_cases e : J.2.2 b = 0
  · rw [if_pos e]; exact jsr_eq h
  · rw [if_neg e]; exact EQ3.rf
theorem jin_eq (h : x ≠ b) : EQ3 x (jin b A J) J := ⟨rfl, if_neg h, if_neg h⟩
theorem jmd_eq (h : x ≠ b) : EQ3 x (jmd b m J) J := ⟨if_neg h, rfl, rfl⟩
theorem jcl_eq (h : x ≠ b) : EQ3 x (jcl sb b A m J) J := by
  cases A with
  | none => exact EQ3.rf
  | some a =>
    show EQ3 x (if J.2.2 b = 0 ∧ sb ≠ 10 ∧ sb ≠ 11 ∧ kmt a m = false then jsr J b 6 else J) J
    by_cases e : J.2.2 b = 0 ∧ sb ≠ 10 ∧ sb ≠ 11 ∧ kmt a m = false
    · rw [if_pos e]; exact jsr_eq h
    · rw [if_neg e]; exact EQ3.rf
theorem jen_eq {N : JT × Term} (h : x ≠ b) : EQ3 x (jen sb b A N).1 N.1 := (jcl_eq h).tr (jmd_eq h)
theorem jcl_ask : (jcl sb b A m J).2.1 = J.2.1 := by
  cases A with
  | none => rfl
  | some a =>
    show (if J.2.2 b = 0 ∧ sb ≠ 10 ∧ sb ≠ 11 ∧ kmt a m = false then jsr J b 6 else J).2.1 = J.2.1
    by_cases e : J.2.2 b = 0 ∧ sb ≠ 10 ∧ sb ≠ 11 ∧ kmt a m = false
    · rw [if_pos e]; rfl
    · rw [if_neg e]
theorem jsn_ask : (jsn J b z).2.1 = J.2.1 := by
  unfold jsn
  by_cases e : J.2.2 b = 0
  · rw [if_pos e]; rfl
  · rw [if_neg e]
theorem jsn_md : (jsn J b z).1 = J.1 := by
  unfold jsn
  by_cases e : J.2.2 b = 0
  · rw [if_pos e]; rfl
  · rw [if_neg e]
theorem jnm_eq {so td pa : Int → Int} {kk : Int → Term} {v : Int} (h : x ≠ b) : EQ3 x (jnm so td pa kk v b J).1 J := by
  unfold jnm
  by_cases e : v = -9
  · rw [if_pos e]; exact jsr_eq h
  · rw [if_neg e]
    by_cases e2 : so v = 8
    · rw [if_pos e2]; exact EQ3.rf
    · rw [if_neg e2]; exact EQ3.rf
theorem jdf_eq (h0 : ∀ A J, EQ3 x (r0 A J).1 J) (h : x ≠ b) : EQ3 x (jdf r0 b k A J).1 J := by
  unfold jdf
  split
  · exact (jsr_eq h).tr (h0 _ _)
  · exact h0 _ _
theorem jus_eq (h0 : ∀ A J, EQ3 x (r0 A J).1 J) (h1 : ∀ A J, EQ3 x (r1 A J).1 J) (h : x ≠ p0) : EQ3 x (jus r0 r1 p0 J).1 J := by
  unfold jus
  split
  · exact (h1 _ _).tr (h0 _ _)
  · exact (h1 _ _).tr (h0 _ _)
  · exact (h1 _ _).tr ((jsn_eq h).tr (h0 _ _))
theorem jpk_eq (h0 : ∀ A J, EQ3 x (r0 A J).1 J) (h1 : ∀ A J, EQ3 x (r1 A J).1 J) (h2 : ∀ A J, EQ3 x (r2 A J).1 J) (h : x ≠ b) : EQ3 x (jpk r0 r1 r2 b A J).1 J := by
  unfold jpk
  split
  · exact (h2 _ _).tr ((h1 _ _).tr (h0 _ _))
  · split
    · exact (h2 _ _).tr ((h1 _ _).tr (h0 _ _))
    · exact (jsr_eq h).tr ((h2 _ _).tr ((h1 _ _).tr (h0 _ _)))
theorem jpr_eq (h0 : ∀ A J, EQ3 x (r0 A J).1 J) (h1 : ∀ A J, EQ3 x (r1 A J).1 J) : EQ3 x (jpr r0 r1 A J).1 J := by
  unfold jpr
  split
  · exact (h1 _ _).tr (h0 _ _)
  · exact (h1 _ _).tr (h0 _ _)
theorem jhf_eq (h0 : ∀ A J, EQ3 x (r0 A J).1 J) (h : x ≠ p0) : EQ3 x (jhf r0 p0 sb J).1 J := by
  unfold jhf
  split
  · exact h0 _ _
  · exact h0 _ _
  · exact (jsn_eq h).tr (h0 _ _)
end
section
variable {so nu td pa so' nu' td' pa' so0 pa0 up pl : Int → Int} {kk kk' : Int → Term} {bd bd' : Int → Int → Int} {B : Int}
/-- judging a tree leaves the others' nodes -/
theorem jd_eq3 : ∀ (n : Nat) (t : Term), dpt t ≤ n → AT so0 pa0 up pl B t → ∀ (A : Option Term) (J : JT) (x : Int), x ∉ fl t → EQ3 x (jd so nu td pa kk bd t A J).1 J := by
  intro n
  induction n with
  | zero => intro t h; have := dpt_pos t; omega
  | succ n ih =>
    intro t hn hA A J x hx
    cases t with
    | index b =>
      have hb : x ≠ (b : Int) := fun e => hx (by rw [e]; exact List.mem_singleton.mpr rfl)
      rw [jd_0]
      refine (jen_eq hb).tr ?_
      split
      · exact jin_eq hb
      · split
        · exact jin_eq hb
        · split
          · exact jin_eq hb
          · exact (jnm_eq hb).tr (jin_eq hb)
    | add t1 y =>
      have hd1 : dpt (Term.add t1 y) = max (dpt t1) (dpt y + 1) := rfl
      have hy : x ∉ fl y := fun q => hx (List.mem_append_right _ q)
      have fy := fun A J => ih y (by omega) hA.2.1 A J x hy
      have py : x ≠ hd y := fun e => hy (by rw [e]; exact hd_mem y hA.2.1)
      cases t1 with
      | index b =>
        have hb : x ≠ (b : Int) := fun e => hx (List.mem_append_left _ (by rw [e]; exact List.mem_singleton.mpr rfl))
        rw [jd_1]
        refine (jen_eq hb).tr ?_
        split
        · exact (jdf_eq fy hb).tr (jin_eq hb)
        · split
          · exact (fy _ _).tr (jin_eq hb)
          · exact (jhf_eq fy py).tr (jin_eq hb)
      | add t2 z =>
        have hd2 : dpt (Term.add t2 z) = max (dpt t2) (dpt z + 1) := rfl
        have hz : x ∉ fl z := fun q => hx (List.mem_append_left _ (List.mem_append_right _ q))
        have fz := fun A J => ih z (by omega) hA.1.2.1 A J x hz
        have pz : x ≠ hd z := fun e => hz (by rw [e]; exact hd_mem z hA.1.2.1)
        cases t2 with
        | index b =>
          have hb : x ≠ (b : Int) := fun e => hx (List.mem_append_left _ (List.mem_append_left _ (by rw [e]; exact List.mem_singleton.mpr rfl)))
          rw [jd_2]
          refine (jen_eq hb).tr ?_
          split
          · exact (jus_eq fz fy pz).tr (jin_eq hb)
          · split
            · exact (fy _ _).tr ((fz _ _).tr (jin_eq hb))
            · split
              · exact (jpr_eq fz fy).tr (jin_eq hb)
              · exact (fy _ _).tr ((fz _ _).tr (jin_eq hb))
        | add t3 v =>
          have hd3 : dpt (Term.add t3 v) = max (dpt t3) (dpt v + 1) := rfl
          have hv : x ∉ fl v := fun q => hx (List.mem_append_left _ (List.mem_append_left _ (List.mem_append_right _ q)))
          have fv := fun A J => ih v (by omega) hA.1.1.2.1 A J x hv
          cases t3 with
          | index b =>
            have hb : x ≠ (b : Int) := fun e => hx (List.mem_append_left _ (List.mem_append_left _ (List.mem_append_left _ (by rw [e]; exact List.mem_singleton.mpr rfl))))
            rw [jd_3]
            exact (jen_eq hb).tr ((jpk_eq fv fz fy hb).tr (jin_eq hb))
          | _ => exact EQ3.rf
        | _ => exact EQ3.rf
      | _ => exact EQ3.rf
    | _ => exact hA.elim
/-- rows that are alike for a tree -/
theorem jd_cl (S : Int → Prop) (hs : ∀ x, S x → so' x = so x ∧ nu' x = nu x ∧ (so x = 8 ∨ so x = 15 → kk' (td' x) = kk (td x))) : ∀ (n : Nat) (t : Term), dpt t ≤ n → AT so0 pa0 up pl B t → (∀ x, x ∈ fl t → S x ∧ ∀ y, bd' x y = bd x y ∧ (bd x y = -9 ∨ (S (bd x y) ∧ (so (bd x y) = 8 ∨ pa' (3 * bd x y) = pa (3 * bd x y))))) → jd so' nu' td' pa' kk' bd' t = jd so nu td pa kk bd t := by
  intro n
  induction n with
  | zero => intro t h; have := dpt_pos t; omega
  | succ n ih =>
    intro t hn hA hS
    funext A J
    cases t with
    | index b =>
      obtain ⟨hSb, hb⟩ := hS b (List.mem_singleton.mpr rfl)
      obtain ⟨s1, s2, s3⟩ := hs b hSb
      rw [jd_0, jd_0, s1, s2]
      obtain ⟨b1, b2⟩ := hb (nu b)
      rw [b1]
      have : jnm so' td' pa' kk' (bd b (nu b)) b (jin b A J) = jnm so td pa kk (bd b (nu b)) b (jin b A J) := by
        unfold jnm
        by_cases e4 : bd b (nu b) = -9
        · rw [if_pos e4, if_pos e4]
        · obtain ⟨b3, b4⟩ := b2.resolve_left e4
          obtain ⟨u1, u2, u3⟩ := hs _ b3
          rw [if_neg e4, if_neg e4, u1]
          by_cases e5 : so (bd b (nu b)) = 8
          · rw [if_pos e5, if_pos e5, u3 (Or.inl e5)]
          · rw [if_neg e5, if_neg e5, b4.resolve_left e5]
      rw [this]
    | add t1 y =>
      have hd1 : dpt (Term.add t1 y) = max (dpt t1) (dpt y + 1) := rfl
      have fy := ih y (by omega) hA.2.1 (fun x hx => hS x (List.mem_append_right _ hx))
      cases t1 with
      | index b =>
        obtain ⟨s1, s2, s3⟩ := hs b (hS b (List.mem_append_left _ (List.mem_singleton.mpr rfl))).1
        rw [jd_1, jd_1, s1, fy]
        by_cases e8 : so b = 8
        · rw [if_pos e8, if_pos e8, s3 (Or.inl e8)]
        · by_cases e15 : so b = 15
          · rw [if_neg e8, if_neg e8, if_pos e15, if_pos e15, s3 (Or.inr e15)]
          · rw [if_neg e8, if_neg e8, if_neg e15, if_neg e15]
      | add t2 z =>
        have hd2 : dpt (Term.add t2 z) = max (dpt t2) (dpt z + 1) := rfl
        have fz := ih z (by omega) hA.1.2.1 (fun x hx => hS x (List.mem_append_left _ (List.mem_append_right _ hx)))
        cases t2 with
        | index b =>
          obtain ⟨s1, s2, s3⟩ := hs b (hS b (List.mem_append_left _ (List.mem_append_left _ (List.mem_singleton.mpr rfl)))).1
          rw [jd_2, jd_2, s1, fy, fz]
        | add t3 v =>
          have hd3 : dpt (Term.add t3 v) = max (dpt t3) (dpt v + 1) := rfl
          have fv := ih v (by omega) hA.1.1.2.1 (fun x hx => hS x (List.mem_append_left _ (List.mem_append_left _ (List.mem_append_right _ hx))))
          cases t3 with
          | index b =>
            obtain ⟨s1, s2, s3⟩ := hs b (hS b (List.mem_append_left _ (List.mem_append_left _ (List.mem_append_left _ (List.mem_singleton.mpr rfl))))).1
            rw [jd_3, jd_3, s1, fy, fz, fv]
          | _ => rfl
        | _ => rfl
      | _ => rfl
    | _ => exact hA.elim
end
/-- what binds, at every node of a tree -/
theorem BOK_all {s : SM} : ∀ (t : Term) (S : Int → Prop), ATj s t → (∀ x, x ∈ fl t → s.2 9 x = 8 ∨ s.2 9 x = 15 → 0 ≤ s.2 11 x ∧ s.2 11 x < s.1 2) → (∀ x, x ∈ fl t → DP (s.2 12) 70 x) → (∀ x, BOK s S (bds s (hd t) x)) → ∀ y, y ∈ fl t → ∀ x, BOK s (fun p => S p ∨ p ∈ fl t) (bds s y x) := by
  intro t
  induction t with
  | index b =>
    intro S hA ht hD hb y hy x
    rw [List.mem_singleton.mp hy]
    exact BOK_mono (hb x) (fun p hp => Or.inl hp)
  | add t1 y1 ih1 ih2 =>
    intro S hA ht hD hb y hy x
    rcases List.mem_append.mp hy with hy | hy
    · exact BOK_mono (ih1 S hA.1 (fun x hx => ht x (List.mem_append_left _ hx)) (fun x hx => hD x (List.mem_append_left _ hx)) hb y hy x) (fun p hp => hp.imp id (List.mem_append_left _))
    · have hh := hd_mem t1 hA.1
      have m := AT_mem t1 hA.1 _ hh
      have hDy := hD (hd y1) (List.mem_append_right _ (hd_mem y1 hA.2.1))
      have hD9 : DP (s.2 12) 69 (hd t1) := by
        have hDy : s.2 12 (hd y1) = -9 ∨ ((0 ≤ s.2 12 (hd y1) ∧ s.2 12 (hd y1) < 3004) ∧ DP (s.2 12) 69 (s.2 12 (hd y1))) := hDy
        rw [hA.2.2.2.2.2.1] at hDy
        rcases hDy with q | q
        · have := m.1; omega
        · exact q.2
      have hk := kid_B (S' := fun p => S p ∨ p ∈ fl t1) hA (fun q => ht _ (List.mem_append_left _ hh) (Or.inl q)) hD9 hb (fun p hp => Or.inl hp) (fun q1 q2 => by
        have k := m.2.2.1 0 (Int.le_refl 0) (by rw [q1]; decide) (fun _ => by omega)
        rw [Int.add_zero] at k
        have k2 := (AT_mem t1 hA.1 _ k.1).1
        exact ⟨Or.inr k.1, k2⟩)
      exact BOK_mono (ih2 _ hA.2.1 (fun x hx => ht x (List.mem_append_right _ hx)) (fun x hx => hD x (List.mem_append_right _ hx)) hk y hy x) (fun p hp => by
        rcases hp with (hp | hp) | hp
        · exact Or.inl hp
        · exact Or.inr (List.mem_append_left _ hp)
        · exact Or.inr (List.mem_append_right _ hp))
  | _ => intro S hA; exact hA.elim
end
section
/-! A piece in the place of a hole: what judging the changed tree says of the piece's head. -/
/-- an arrow, or not known -/
def knF (m : Term) : Bool := match m with
  | .add _ _ => true
  | .null => true
  | _ => false
/-- a pair, or not known -/
def knP (m : Term) : Bool := match m with
  | .mul _ _ => true
  | .null => true
  | _ => false
/-- the reason at the piece's head, with the one that the node above gives -/
def blw (sp pl w : Int) (M : JT × Term) : Int := if M.1.2.2 w ≠ 0 ∨ pl ≠ 0 then M.1.2.2 w else if sp = 9 then (if knF M.2 then 0 else 2) else if sp = 13 ∨ sp = 14 then (if knP M.2 then 0 else 3) else 0
theorem blw_o {sp pl w : Int} {M : JT × Term} (h : pl ≠ 0 ∨ (sp ≠ 9 ∧ sp ≠ 13 ∧ sp ≠ 14)) : blw sp pl w M = M.1.2.2 w := by
  unfold blw
  by_cases e : M.1.2.2 w ≠ 0 ∨ pl ≠ 0
  · rw [if_pos e]
  · rw [if_neg e]
    have e1 : M.1.2.2 w = 0 := Decidable.byContradiction (fun q => e (Or.inl q))
    obtain ⟨h1, h2, h3⟩ := h.resolve_left (fun q => e (Or.inr q))
    rw [if_neg h1, if_neg (fun q => q.elim h2 h3), e1]
theorem jsn_w {J : JT} {w z : Int} : (jsn J w z).2.2 w = if J.2.2 w = 0 then z else J.2.2 w := by
  unfold jsn
  by_cases e : J.2.2 w = 0
  · rw [if_pos e, if_pos e]
    exact if_pos rfl
  · rw [if_neg e, if_neg e]
theorem jhf_w {r0 : JF} {w sb : Int} {J : JT} (hs : sb = 13 ∨ sb = 14) : (jhf r0 w sb J).1.2.2 w = blw sb 0 w (r0 none J) := by
  have h9 : ¬ sb = 9 := by omega
  unfold jhf blw
  generalize r0 none J = M
  obtain ⟨K, m⟩ := M
  by_cases e : K.2.2 w = 0
  · have e' : ¬ (K.2.2 w ≠ 0 ∨ (0 : Int) ≠ 0) := by omega
    rw [if_neg e', if_neg h9, if_pos hs]
    cases m <;> first | exact e | (show (jsn K w 3).2.2 w = 3; rw [jsn_w, if_pos e])
  · rw [if_pos (Or.inl e)]
    cases m <;> first | rfl | (show (jsn K w 3).2.2 w = K.2.2 w; rw [jsn_w, if_neg e])
theorem jus_w {r0 r1 : JF} {w : Int} {J : JT} (h1 : ∀ A J, (r1 A J).1.2.2 w = J.2.2 w) : (jus r0 r1 w J).1.2.2 w = blw 9 0 w (r0 none J) := by
  unfold jus blw
  generalize r0 none J = M
  obtain ⟨K, m⟩ := M
  by_cases e : K.2.2 w = 0
  · have e' : ¬ (K.2.2 w ≠ 0 ∨ (0 : Int) ≠ 0) := by omega
    rw [if_neg e', if_pos rfl]
    cases m <;> first | (exact (h1 _ _).trans e) | (show (r1 (some .null) (jsn K w 2)).1.2.2 w = 2; rw [h1, jsn_w, if_pos e])
  · rw [if_pos (Or.inl e)]
    cases m <;> first | (exact h1 _ _) | (show (r1 (some .null) (jsn K w 2)).1.2.2 w = K.2.2 w; rw [h1, jsn_w, if_neg e])
section
variable {s : SM} {c w : Int} {u : Term} {l : List Int} {so' nu' td' pa' : Int → Int} {kk' : Int → Term} {bd' : Int → Int → Int}
/-- rows that are those of s but at c and what is new -/
def CHG (s : SM) (c : Int) (l : List Int) (so' nu' td' pa' : Int → Int) (kk' : Int → Term) (bd' : Int → Int → Int) : Prop := (∀ x, x ∈ l → x ≠ c → (so' x = s.2 9 x ∧ nu' x = s.2 10 x ∧ (s.2 9 x = 8 ∨ s.2 9 x = 15 → kk' (td' x) = kks s (s.2 11 x))) ∧ ∀ y, bd' x y = bds s x y ∧ (bds s x y = -9 ∨ bds s x y ∈ l)) ∧ ∀ v, v ∈ l → s.2 9 v = 10 → s.2 14 (3 * v) ≠ c → pa' (3 * v) = s.2 14 (3 * v)
theorem part_same {x : Term} {S : Int → Prop} (hC : CHG s c l so' nu' td' pa' kk' bd') (hc0 : s.2 9 c = 0) (hP : PRT s x) (hx : ∀ y, y ∈ fl x → y ∈ l) (hcx : c ∉ fl x) (hB : ∀ z, BOK s S (bds s (hd x) z)) (hcS : ¬ S c) : jd so' nu' td' pa' kk' bd' x = jds s x := by
  obtain ⟨h1, h2, h3, h4, h5⟩ := hP
  refine jd_cl (fun v => v ∈ l ∧ v ≠ c) (fun v hv => (hC.1 v hv.1 hv.2).1) (dpt x) x (Nat.le_refl _) h1 (fun y hy => ?_)
  have hyc : y ≠ c := fun e => hcx (by rw [← e]; exact hy)
  refine ⟨⟨hx y hy, hyc⟩, fun z => ?_⟩
  obtain ⟨g1, g2⟩ := (hC.1 y (hx y hy) hyc).2 z
  refine ⟨g1, ?_⟩
  rcases g2 with g2 | g2
  · exact Or.inl g2
  · rcases BOK_all x S h1 h4 h5 hB y hy z with b | ⟨b1, b2⟩
    · exact Or.inl b
    · right
      rcases b2 with b2 | ⟨b2, b3, b4⟩
      · refine ⟨⟨g2, fun e => ?_⟩, Or.inl b2.1⟩
        rw [e, hc0] at b2
        exact absurd b2.1 (by decide)
      · refine ⟨⟨g2, fun e => ?_⟩, Or.inr (hC.2 _ g2 b2 (fun e => ?_))⟩
        · rw [e, hc0] at b2
          exact absurd b2 (by decide)
        · rw [e] at b3
          rcases b3 with b3 | b3
          · exact hcS b3
          · exact hcx b3
/-- what is left of a place: what was asked there, the state then, what was settled -/
def LOCX (s : SM) (c w : Int) (U : JF) (x : Term) (P P' : JT × Term) (S : Int → Prop) : Prop := ∃ Ac Jc, ∃ Sc : Int → Prop, P.1.2.1 c = Ac ∧ (∀ z, BOK s Sc (bds s c z)) ∧ (∀ p, Sc p → p ≠ c ∧ (S p ∨ (p ∈ fl x ∧ p ≠ hd x)) ∧ P.1.1 p = Jc.1 p ∧ P.1.2.2 p = Jc.2.2 p) ∧ (hd x = c → P' = U Ac Jc) ∧ (hd x ≠ c → P'.1.2.2 w = blw (s.2 9 (s.2 12 c)) (s.2 13 c) w (U Ac Jc))
theorem loc_up {t y : Term} {U : JF} {P P' F F' : JT × Term} {S S' : Int → Prop} (hL : LOCX s c w U y P P' S') (hne : hd t ≠ c) (ha : F.1.2.1 c = P.1.2.1 c) (hp : ∀ p, S' p ∨ (p ∈ fl y ∧ p ≠ hd y) → (S p ∨ (p ∈ fl t ∧ p ≠ hd t)) ∧ F.1.1 p = P.1.1 p ∧ F.1.2.2 p = P.1.2.2 p) (hw : (hd y = c → F'.1.2.2 w = blw (s.2 9 (s.2 12 c)) (s.2 13 c) w P') ∧ (hd y ≠ c → F'.1.2.2 w = P'.1.2.2 w)) : LOCX s c w U t F F' S := by
  obtain ⟨Ac, Jc, Sc, h1, h2, h3, h4, h5⟩ := hL
  refine ⟨Ac, Jc, Sc, ha.trans h1, h2, fun p hs => ?_, fun e => absurd e hne, fun _ => ?_⟩
  · obtain ⟨a0, a1, a2, a3⟩ := h3 p hs
    obtain ⟨b1, b2, b3⟩ := hp p a1
    exact ⟨a0, b1, b2.trans a2, b3.trans a3⟩
  · by_cases e : hd y = c
    · rw [hw.1 e, h4 e]
    · rw [hw.2 e, h5 e]
theorem hole_J {b : Nat} {A : Option Term} {J : JT} : (jds s (.index b) A J).1.2.1 b = A := by
  show (jd (s.2 9) (s.2 10) (s.2 11) (s.2 14) (kks s) (bds s) (.index b) A J).1.2.1 b = A
  rw [jd_0]
  have key : ∀ N : JT × Term, (∀ m, (jmd (b : Int) m N.1).2.1 b = A) → (jen (s.2 9 b) b A N).1.2.1 b = A := fun N h => by
    show (jcl (s.2 9 b) b A N.2 (jmd b N.2 N.1)).2.1 b = A
    rw [jcl_ask]
    exact h _
  refine key _ (fun m => ?_)
  split
  · exact if_pos rfl
  · split
    · exact if_pos rfl
    · split
      · exact if_pos rfl
      · unfold jnm
        split
        · exact if_pos rfl
        · split <;> exact if_pos rfl
end
end
section
/-! .. the parts of a node, one behind another. -/
theorem jdf_as (b : Int) (k : Term) (A : Option Term) (J : JT) : ∃ Ay, ∀ (r0 : JF) (x : Int), x ≠ b → EQ3 x (jdf r0 b k A J).1 (r0 Ay J).1 := by
  unfold jdf
  split
  · rename_i a1 a2
    exact ⟨some a2, fun r0 x h => jsr_eq h⟩
  · exact ⟨jask A, fun r0 x h => EQ3.rf⟩
theorem jhf_as {r0 : JF} {p0 sb x : Int} {J : JT} (h : x ≠ p0) : EQ3 x (jhf r0 p0 sb J).1 (r0 none J).1 := by
  unfold jhf
  split
  · exact EQ3.rf
  · exact EQ3.rf
  · exact jsn_eq h
theorem jhf_ask {r0 : JF} {p0 sb : Int} {J : JT} : (jhf r0 p0 sb J).1.2.1 = (r0 none J).1.2.1 := by
  unfold jhf
  split
  · rfl
  · rfl
  · exact jsn_ask
theorem jus_as {r0 r1 : JF} {p0 x : Int} {J : JT} (h1 : ∀ A J, EQ3 x (r1 A J).1 J) (h : x ≠ p0) : EQ3 x (jus r0 r1 p0 J).1 (r0 none J).1 := by
  unfold jus
  split
  · exact h1 _ _
  · exact h1 _ _
  · exact (h1 _ _).tr (jsn_eq h)
theorem jus_ask {r0 r1 : JF} {p0 x : Int} {J : JT} (h1 : ∀ A J, EQ3 x (r1 A J).1 J) : (jus r0 r1 p0 J).1.2.1 x = (r0 none J).1.2.1 x := by
  unfold jus
  split
  · exact (h1 _ _).2.1
  · exact (h1 _ _).2.1
  · exact (h1 _ _).2.1.trans (by rw [jsn_ask])
theorem jus_as1 (r0 : JF) (p0 : Int) (J : JT) : ∃ Ay Jy, ∀ r1 : JF, (jus r0 r1 p0 J).1 = (r1 Ay Jy).1 := by
  unfold jus
  split
  · exact ⟨_, _, fun r1 => rfl⟩
  · exact ⟨_, _, fun r1 => rfl⟩
  · exact ⟨_, _, fun r1 => rfl⟩
theorem jpr_as (A : Option Term) (J : JT) : ∃ Ax Ay, ∀ r0 r1 : JF, (jpr r0 r1 A J).1 = (r1 Ay (r0 Ax J).1).1 := by
  unfold jpr
  split
  · exact ⟨_, _, fun r0 r1 => rfl⟩
  · exact ⟨_, _, fun r0 r1 => rfl⟩
theorem jpk_as (b : Int) (A : Option Term) (J : JT) : ∃ Ax Ay Az, ∀ (r0 r1 r2 : JF) (x : Int), x ≠ b → EQ3 x (jpk r0 r1 r2 b A J).1 (r2 Az (r1 Ay (r0 Ax J).1).1).1 := by
  unfold jpk
  split
  · exact ⟨_, _, _, fun r0 r1 r2 x h => EQ3.rf⟩
  · refine ⟨some .thrown, none, none, fun r0 r1 r2 x h => ?_⟩
    split
    · exact EQ3.rf
    · exact jsr_eq h
theorem kid_D {s : SM} {t y : Term} (h : ATj s (.add t y)) (hD : DP (s.2 12) 70 (hd y)) : DP (s.2 12) 69 (hd t) := by
  have m := (AT_mem t h.1 _ (hd_mem t h.1)).1
  have hD : s.2 12 (hd y) = -9 ∨ ((0 ≤ s.2 12 (hd y) ∧ s.2 12 (hd y) < 3004) ∧ DP (s.2 12) 69 (s.2 12 (hd y))) := hD
  rw [h.2.2.2.2.2.1] at hD
  rcases hD with q | q
  · omega
  · exact q.2
section
variable {s : SM} {c w : Int} {u : Term} {l : List Int} {so' nu' td' pa' : Int → Int} {kk' : Int → Term} {bd' : Int → Int → Int}
theorem loc (hC : CHG s c l so' nu' td' pa' kk' bd') (hc0 : s.2 9 c = 0) (hu : hd u = w) (hwl : w ∉ l) : ∀ (n : Nat) (x : Term) (A : Option Term) (J : JT) (S : Int → Prop), dpt x ≤ n → PRT s x → (∀ y, y ∈ fl x → y ∈ l) → (∀ z, BOK s S (bds s (hd x) z)) → (∀ p, S p → p ∉ fl x) → c ∈ fl x → LOCX s c w (jd so' nu' td' pa' kk' bd' u) x (jds s x A J) (jd so' nu' td' pa' kk' bd' (if hd x = c then u else rp c u x) A J) S := by
  intro n
  induction n with
  | zero => intro x A J S h; have := dpt_pos x; omega
  | succ n ih =>
    intro x A J S hn hP hl hB hS hc
    have hcS : ¬ S c := fun q => hS c q hc
    by_cases e : hd x = c
    · rw [if_pos e]
      have hx : ∃ b : Nat, x = .index b := by
        cases x with
        | index b => exact ⟨b, rfl⟩
        | add t y =>
          exfalso
          have hf : na (.add t y) = pO (s.2 9 (hd (.add t y))) := hP.2.1
          rw [e, hc0] at hf
          have h1 : na (Term.add t y) = na t + 1 := rfl
          have h2 := na_ge t
          have h3 : pO 0 = 0 := by decide
          omega
        | _ => exact hP.1.elim
      obtain ⟨b, rfl⟩ := hx
      have e : (b : Int) = c := e
      refine ⟨A, J, S, by rw [← e]; exact hole_J, by rw [← e]; exact hB, fun p hp => ⟨fun q => hS p hp (by rw [q]; exact hc), Or.inl hp, ?_⟩, fun _ => rfl, fun q => absurd e q⟩
      have := jd_eq3 (so := s.2 9) (nu := s.2 10) (td := s.2 11) (pa := s.2 14) (kk := kks s) (bd := bds s) (dpt _) _ (Nat.le_refl _) hP.1 A J p (hS p hp)
      exact ⟨this.1, this.2.2⟩
    · rw [if_neg e]
      obtain ⟨h1, h2, h3, h4, h5⟩ := hP
      cases x with
      | index b => exact absurd (List.mem_singleton.mp hc).symm e
      | add t1 y =>
        have hd1 : dpt (Term.add t1 y) = max (dpt t1) (dpt y + 1) := rfl
        obtain ⟨d1, d2, d3⟩ := List.nodup_append.mp h3
        have hPy := kid_T h1 h3 h4 h5
        have hDy := kid_D h1 (h5 _ (List.mem_append_right _ (hd_mem y h1.2.1)))
        have hly : ∀ q, q ∈ fl y → q ∈ l := fun q hq => hl q (List.mem_append_right _ hq)
        have wy : ∀ q, q ∈ fl y → w ≠ q := fun q hq e => hwl (by rw [e]; exact hly q hq)
        have fy := fun (q : Int) (hq : q ∉ fl y) (A : Option Term) (J : JT) => jd_eq3 (so := s.2 9) (nu := s.2 10) (td := s.2 11) (pa := s.2 14) (kk := kks s) (bd := bds s) (dpt y) y (Nat.le_refl _) h1.2.1 A J q hq
        have fy' := fun (A : Option Term) (J : JT) => jd_eq3 (so := so') (nu := nu') (td := td') (pa := pa') (kk := kk') (bd := bd') (dpt y) y (Nat.le_refl _) h1.2.1 A J w (fun q => wy w q rfl)
        have hy' : hd (if hd y = c then u else rp c u y) = if hd y = c then w else hd y := by
          by_cases q : hd y = c
          · rw [if_pos q, if_pos q, hu]
          · rw [if_neg q, if_neg q, (rp_hd y).1]
        cases t1 with
        | index b =>
          have hbl : (b : Int) ∈ l := hl _ (List.mem_append_left _ (List.mem_singleton.mpr rfl))
          have e : ¬ (b : Int) = c := e
          have wb : w ≠ (b : Int) := fun q => hwl (by rw [q]; exact hbl)
          obtain ⟨s1, s2, s3⟩ := (hC.1 b hbl e).1
          have hcy : c ∈ fl y := (List.mem_append.mp hc).resolve_left (fun q => e (List.mem_singleton.mp q).symm)
          have bny : ∀ q, q ∈ fl y → q ≠ (b : Int) := fun q hq e => d3 b (List.mem_singleton.mpr rfl) q hq e.symm
          have hBy := kid_B (S' := S) h1 (fun q => h4 _ (List.mem_append_left _ (List.mem_singleton.mpr rfl)) (Or.inl q)) hDy hB (fun _ q => q) (fun _ q => by cases q)
          have IH := fun Ay => ih y Ay (jin b A J) S (by omega) hPy hly hBy (fun p hp q => hS p hp (List.mem_append_right _ q)) hcy
          have up1 : hd y = c → s.2 12 c = b ∧ s.2 13 c = 0 := fun q => by rw [← q]; exact ⟨h1.2.2.2.2.2.1, h1.2.2.2.2.2.2⟩
          have hpS : ∀ p, S p ∨ (p ∈ fl y ∧ p ≠ hd y) → (S p ∨ (p ∈ fl (Term.add (.index b) y) ∧ p ≠ hd (Term.add (.index b) y))) ∧ p ≠ (b : Int) ∧ p ≠ hd y := fun p hp => by
            rcases hp with hp | ⟨hp, hp2⟩
            · exact ⟨Or.inl hp, fun q => hS p hp (by rw [q]; exact List.mem_append_left _ (List.mem_singleton.mpr rfl)), fun q => hS p hp (by rw [q]; exact List.mem_append_right _ (hd_mem y h1.2.1))⟩
            · exact ⟨Or.inr ⟨List.mem_append_right _ hp, bny p hp⟩, bny p hp, hp2⟩
          have cb : c ≠ (b : Int) := fun q => e q.symm
          rw [show rp c u (Term.add (.index b) y) = Term.add (.index b) (if hd y = c then u else rp c u y) from rfl]
          show LOCX s c w (jd so' nu' td' pa' kk' bd' u) _ (jd (s.2 9) (s.2 10) (s.2 11) (s.2 14) (kks s) (bds s) (Term.add (.index b) y) A J) _ S
          rw [jd_1, jd_1, s1]
          generalize hY : (if hd y = c then u else rp c u y) = y' at IH hy'
          have gen : ∀ (Ay : Option Term) (N N' : JT × Term), (∀ q, q ≠ (b : Int) → EQ3 q N.1 (jds s y Ay (jin b A J)).1) → (∀ q, q ≠ (b : Int) → EQ3 q N'.1 (jd so' nu' td' pa' kk' bd' y' Ay (jin b A J)).1) → (hd y = c → s.2 9 (s.2 12 c) ≠ 9 ∧ s.2 9 (s.2 12 c) ≠ 13 ∧ s.2 9 (s.2 12 c) ≠ 14) → LOCX s c w (jd so' nu' td' pa' kk' bd' u) (Term.add (.index b) y) (jen (s.2 9 b) b A N) (jen (s.2 9 b) b A N') S := fun Ay N N' hN hN' h9 => by
            refine loc_up (IH Ay) e (((jen_eq cb).tr (hN c cb)).2.1) (fun p hp => ?_) ⟨fun q => ?_, fun _ => ((jen_eq wb).tr (hN' w wb)).2.2⟩
            · obtain ⟨g1, g2, g3⟩ := hpS p hp
              have := (jen_eq (sb := s.2 9 b) (A := A) (N := N) g2).tr (hN p g2)
              exact ⟨g1, this.1, this.2.2⟩
            · rw [blw_o (Or.inr (h9 q))]
              exact ((jen_eq wb).tr (hN' w wb)).2.2
          by_cases e8 : s.2 9 b = 8
          · rw [if_pos e8, if_pos e8, s3 (Or.inl e8)]
            obtain ⟨Ay, hAy⟩ := jdf_as b (kks s (s.2 11 b)) A (jin b A J)
            exact gen Ay _ _ (fun q hq => hAy _ q hq) (fun q hq => hAy _ q hq) (fun q => by rw [(up1 q).1, e8]; decide)
          · by_cases e15 : s.2 9 b = 15
            · rw [if_neg e8, if_neg e8, if_pos e15, if_pos e15, s3 (Or.inr e15)]
              exact gen _ _ _ (fun q _ => EQ3.rf) (fun q _ => EQ3.rf) (fun q => by rw [(up1 q).1, e15]; decide)
            · rw [if_neg e8, if_neg e8, if_neg e15, if_neg e15, hy']
              have hs : s.2 9 b = 13 ∨ s.2 9 b = 14 := by
                have hf : (1 : Int) = pO (s.2 9 b) := h2
                have hr := (AT_mem _ h1.1 _ (hd_mem _ h1.1)).2.1
                have hr : 0 ≤ s.2 9 b ∧ s.2 9 b < 16 := hr
                generalize s.2 9 b = v at hf hr e8 e15
                have key : ∀ k : Nat, k < 16 → (1 : Int) = pO k → k = 8 ∨ k = 13 ∨ k = 14 ∨ k = 15 := by decide
                have := key v.toNat (by omega) (by rw [hf]; congr 1; omega)
                omega
              refine loc_up (IH none) e ?_ (fun p hp => ?_) ⟨fun q => ?_, fun q => ?_⟩
              · exact (jen_eq cb).2.1.trans (by rw [jhf_ask]; rfl)
              · obtain ⟨g1, g2, g3⟩ := hpS p hp
                have := (jen_eq (sb := s.2 9 b) (A := A) (N := jhf (jds s y) (hd y) (s.2 9 b) (jin b A J)) g2).tr (jhf_as g3)
                exact ⟨g1, this.1, this.2.2⟩
              · rw [if_pos q, (up1 q).1, (up1 q).2]
                exact (jen_eq wb).2.2.trans (jhf_w hs)
              · rw [if_neg q]
                exact ((jen_eq wb).tr (jhf_as (wy _ (hd_mem y h1.2.1)))).2.2
        | add t2 z =>
          have hd2 : dpt (Term.add t2 z) = max (dpt t2) (dpt z + 1) := rfl
          obtain ⟨f1, f2, f3⟩ := List.nodup_append.mp d1
          have hPz := kid_T h1.1 d1 (fun x hx => h4 x (List.mem_append_left _ hx)) (fun x hx => h5 x (List.mem_append_left _ hx))
          have hDz := kid_D h1.1 (h5 _ (List.mem_append_left _ (List.mem_append_right _ (hd_mem z h1.1.2.1))))
          have hlz : ∀ q, q ∈ fl z → q ∈ l := fun q hq => hl q (List.mem_append_left _ (List.mem_append_right _ hq))
          have wz : ∀ q, q ∈ fl z → w ≠ q := fun q hq e => hwl (by rw [e]; exact hlz q hq)
          have fz := fun (q : Int) (hq : q ∉ fl z) (A : Option Term) (J : JT) => jd_eq3 (so := s.2 9) (nu := s.2 10) (td := s.2 11) (pa := s.2 14) (kk := kks s) (bd := bds s) (dpt z) z (Nat.le_refl _) h1.1.2.1 A J q hq
          have fz' := fun (A : Option Term) (J : JT) => jd_eq3 (so := so') (nu := nu') (td := td') (pa := pa') (kk := kk') (bd := bd') (dpt z) z (Nat.le_refl _) h1.1.2.1 A J w (fun q => wz w q rfl)
          have hz' : hd (if hd z = c then u else rp c u z) = if hd z = c then w else hd z := by
            by_cases q : hd z = c
            · rw [if_pos q, if_pos q, hu]
            · rw [if_neg q, if_neg q, (rp_hd z).1]
          have zy : ∀ q, q ∈ fl z → q ∉ fl y := fun q hq g => d3 q (List.mem_append_right _ hq) q g rfl
          cases t2 with
          | index b =>
            have hbt : (b : Int) ∈ fl (Term.add (Term.add (.index b) z) y) := List.mem_append_left _ (List.mem_append_left _ (List.mem_singleton.mpr rfl))
            have hbl : (b : Int) ∈ l := hl _ hbt
            have e : ¬ (b : Int) = c := e
            have wb : w ≠ (b : Int) := fun q => hwl (by rw [q]; exact hbl)
            have cb : c ≠ (b : Int) := fun q => e q.symm
            obtain ⟨s1, s2, s3⟩ := (hC.1 b hbl e).1
            have bny : ∀ q, q ∈ fl y → q ≠ (b : Int) := fun q hq e => d3 b (List.mem_append_left _ (List.mem_singleton.mpr rfl)) q hq e.symm
            have bnz : ∀ q, q ∈ fl z → q ≠ (b : Int) := fun q hq e => f3 b (List.mem_singleton.mpr rfl) q hq e.symm
            have hBz := kid_B (S' := S) h1.1 (fun q => h4 _ hbt (Or.inl q)) hDz hB (fun _ q => q) (fun _ q => by cases q)
            have hs : s.2 9 b ≠ 13 ∧ s.2 9 b ≠ 14 := by
              have hf : (2 : Int) = pO (s.2 9 b) := h2
              refine ⟨fun q => ?_, fun q => ?_⟩
              · rw [q] at hf; exact absurd hf (by decide)
              · rw [q] at hf; exact absurd hf (by decide)
            rw [show rp c u (Term.add (Term.add (.index b) z) y) = Term.add (Term.add (.index b) (if hd z = c then u else rp c u z)) (if hd y = c then u else rp c u y) from rfl]
            show LOCX s c w (jd so' nu' td' pa' kk' bd' u) _ (jd (s.2 9) (s.2 10) (s.2 11) (s.2 14) (kks s) (bds s) (Term.add (Term.add (.index b) z) y) A J) _ S
            by_cases hcz : c ∈ fl z
            · have hcy : c ∉ fl y := zy c hcz
              rw [if_neg (fun q => hcy (by rw [← q]; exact hd_mem y h1.2.1) : ¬ hd y = c), rp_no y h1.2.1 hcy]
              have IH := fun Az => ih z Az (jin b A J) S (by omega) hPz hlz hBz (fun p hp q => hS p hp (List.mem_append_left _ (List.mem_append_right _ q))) hcz
              have up1 : hd z = c → s.2 12 c = b ∧ s.2 13 c = 0 := fun q => by rw [← q]; exact ⟨h1.1.2.2.2.2.2.1, h1.1.2.2.2.2.2.2⟩
              have hpS : ∀ p, S p ∨ (p ∈ fl z ∧ p ≠ hd z) → (S p ∨ (p ∈ fl (Term.add (Term.add (.index b) z) y) ∧ p ≠ hd (Term.add (Term.add (.index b) z) y))) ∧ p ≠ (b : Int) ∧ p ≠ hd z ∧ p ∉ fl y := fun p hp => by
                rcases hp with hp | ⟨hp, hp2⟩
                · exact ⟨Or.inl hp, fun q => hS p hp (by rw [q]; exact hbt), fun q => hS p hp (by rw [q]; exact List.mem_append_left _ (List.mem_append_right _ (hd_mem z h1.1.2.1))), fun q => hS p hp (List.mem_append_right _ q)⟩
                · exact ⟨Or.inr ⟨List.mem_append_left _ (List.mem_append_right _ hp), bnz p hp⟩, bnz p hp, hp2, zy p hp⟩
              rw [jd_2, jd_2, s1]
              generalize hZ : (if hd z = c then u else rp c u z) = z' at IH hz'
              have gen : ∀ (Az : Option Term) (N N' : JT × Term), (∀ q, q ≠ (b : Int) → q ∉ fl y → EQ3 q N.1 (jds s z Az (jin b A J)).1) → EQ3 w N'.1 (jd so' nu' td' pa' kk' bd' z' Az (jin b A J)).1 → s.2 9 b ≠ 9 → LOCX s c w (jd so' nu' td' pa' kk' bd' u) (Term.add (Term.add (.index b) z) y) (jen (s.2 9 b) b A N) (jen (s.2 9 b) b A N') S := fun Az N N' hN hN' h9 => by
                refine loc_up (IH Az) e (((jen_eq cb).tr (hN c cb hcy)).2.1) (fun p hp => ?_) ⟨fun q => ?_, fun _ => ((jen_eq wb).tr hN').2.2⟩
                · obtain ⟨g1, g2, g3, g4⟩ := hpS p hp
                  have := (jen_eq (sb := s.2 9 b) (A := A) (N := N) g2).tr (hN p g2 g4)
                  exact ⟨g1, this.1, this.2.2⟩
                · rw [blw_o (Or.inr (by rw [(up1 q).1]; exact ⟨h9, hs.1, hs.2⟩))]
                  exact ((jen_eq wb).tr hN').2.2
              by_cases e9 : s.2 9 b = 9
              · rw [if_pos e9, if_pos e9, hz']
                refine loc_up (IH none) e ?_ (fun p hp => ?_) ⟨fun q => ?_, fun q => ?_⟩
                · exact (jen_eq cb).2.1.trans (jus_ask (fy c hcy))
                · obtain ⟨g1, g2, g3, g4⟩ := hpS p hp
                  have := (jen_eq (sb := s.2 9 b) (A := A) (N := jus (jds s z) (jds s y) (hd z) (jin b A J)) g2).tr (jus_as (fy p g4) g3)
                  exact ⟨g1, this.1, this.2.2⟩
                · rw [if_pos q, (up1 q).1, (up1 q).2, e9]
                  exact (jen_eq wb).2.2.trans (jus_w (fun A J => (fy' A J).2.2))
                · rw [if_neg q]
                  exact ((jen_eq wb).tr (jus_as fy' (wz _ (hd_mem z h1.1.2.1)))).2.2
              · rw [if_neg e9, if_neg e9]
                by_cases e10 : s.2 9 b = 10
                · rw [if_pos e10, if_pos e10]
                  exact gen none _ _ (fun q _ hq => fy q hq _ _) (fy' _ _) e9
                · rw [if_neg e10, if_neg e10]
                  by_cases e12 : s.2 9 b = 12
                  · rw [if_pos e12, if_pos e12]
                    obtain ⟨Ax, Ay, hA⟩ := jpr_as A (jin b A J)
                    exact gen Ax _ _ (fun q _ hq => by rw [hA]; exact fy q hq _ _) (by rw [hA]; exact fy' _ _) e9
                  · rw [if_neg e12, if_neg e12]
                    exact gen (some .result) _ _ (fun q _ hq => fy q hq _ _) (fy' _ _) e9
            · have hcy : c ∈ fl y := (List.mem_append.mp hc).resolve_left (fun q => (List.mem_append.mp q).elim (fun q => e (List.mem_singleton.mp q).symm) hcz)
              rw [if_neg (fun q => hcz (by rw [← q]; exact hd_mem z h1.1.2.1) : ¬ hd z = c), rp_no z h1.1.2.1 hcz]
              have hVz := part_same hC hc0 hPz hlz hcz hBz hcS
              have k3 : s.2 14 (3 * (b : Int)) = hd z := by
                have := h1.1.2.2.2.2.1
                rwa [show 3 * hd (Term.index b) + na (Term.index b) = 3 * (b : Int) from Int.add_zero _] at this
              have hBy := kid_B (S' := fun p => S p ∨ (s.2 9 b = 10 ∧ p ∈ fl z)) h1 (fun q => h4 _ hbt (Or.inl q)) hDy hB (fun _ q => Or.inl q) (fun q1 _ => by
                have hm := hd_mem z h1.1.2.1
                have h0 := (AT_mem z h1.1.2.1 _ hm).1
                show (S (s.2 14 (3 * (b : Int))) ∨ (s.2 9 b = 10 ∧ s.2 14 (3 * (b : Int)) ∈ fl z)) ∧ 0 ≤ s.2 14 (3 * (b : Int)) ∧ s.2 14 (3 * (b : Int)) < 3004
                rw [k3]
                exact ⟨Or.inr ⟨q1, hm⟩, h0⟩)
              have IH := fun Ay Jy => ih y Ay Jy (fun p => S p ∨ (s.2 9 b = 10 ∧ p ∈ fl z)) (by omega) hPy hly hBy (fun p hp q => hp.elim (fun hp => hS p hp (List.mem_append_right _ q)) (fun hp => zy p hp.2 q)) hcy
              have up1 : hd y = c → s.2 13 c ≠ 0 := fun q => by
                rw [← q, h1.2.2.2.2.2.2]
                show (0 : Int) + 1 ≠ 0
                decide
              have hpS : ∀ p, (S p ∨ (s.2 9 b = 10 ∧ p ∈ fl z)) ∨ (p ∈ fl y ∧ p ≠ hd y) → (S p ∨ (p ∈ fl (Term.add (Term.add (.index b) z) y) ∧ p ≠ hd (Term.add (Term.add (.index b) z) y))) ∧ p ≠ (b : Int) := fun p hp => by
                rcases hp with (hp | hp) | ⟨hp, hp2⟩
                · exact ⟨Or.inl hp, fun q => hS p hp (by rw [q]; exact hbt)⟩
                · exact ⟨Or.inr ⟨List.mem_append_left _ (List.mem_append_right _ hp.2), bnz p hp.2⟩, bnz p hp.2⟩
                · exact ⟨Or.inr ⟨List.mem_append_right _ hp, bny p hp⟩, bny p hp⟩
              rw [jd_2, jd_2, s1, hVz]
              generalize hY : (if hd y = c then u else rp c u y) = y' at IH hy'
              have gen : ∀ (Ay : Option Term) (Jy : JT) (N N' : JT × Term), N.1 = (jds s y Ay Jy).1 → N'.1 = (jd so' nu' td' pa' kk' bd' y' Ay Jy).1 → LOCX s c w (jd so' nu' td' pa' kk' bd' u) (Term.add (Term.add (.index b) z) y) (jen (s.2 9 b) b A N) (jen (s.2 9 b) b A N') S := fun Ay Jy N N' hN hN' => by
                refine loc_up (IH Ay Jy) e ((jen_eq cb).2.1.trans (by rw [hN])) (fun p hp => ?_) ⟨fun q => ?_, fun _ => (jen_eq wb).2.2.trans (by rw [hN'])⟩
                · obtain ⟨g1, g2⟩ := hpS p hp
                  have := jen_eq (sb := s.2 9 b) (A := A) (N := N) g2
                  rw [hN] at this
                  exact ⟨g1, this.1, this.2.2⟩
                · rw [blw_o (Or.inl (up1 q))]
                  exact (jen_eq wb).2.2.trans (by rw [hN'])
              by_cases e9 : s.2 9 b = 9
              · rw [if_pos e9, if_pos e9]
                obtain ⟨Ay, Jy, hA⟩ := jus_as1 (jds s z) (hd z) (jin b A J)
                exact gen Ay Jy _ _ (hA _) (hA _)
              · rw [if_neg e9, if_neg e9]
                by_cases e10 : s.2 9 b = 10
                · rw [if_pos e10, if_pos e10]
                  exact gen A _ _ _ rfl rfl
                · rw [if_neg e10, if_neg e10]
                  by_cases e12 : s.2 9 b = 12
                  · rw [if_pos e12, if_pos e12]
                    obtain ⟨Ax, Ay, hA⟩ := jpr_as A (jin b A J)
                    exact gen Ay _ _ _ (hA _ _) (hA _ _)
                  · rw [if_neg e12, if_neg e12]
                    exact gen (some .result) _ _ _ rfl rfl
          | add t3 v =>
            have hd3 : dpt (Term.add t3 v) = max (dpt t3) (dpt v + 1) := rfl
            obtain ⟨k1, k2, k3⟩ := List.nodup_append.mp f1
            have hPv := kid_T h1.1.1 f1 (fun x hx => h4 x (List.mem_append_left _ (List.mem_append_left _ hx))) (fun x hx => h5 x (List.mem_append_left _ (List.mem_append_left _ hx)))
            have hDv := kid_D h1.1.1 (h5 _ (List.mem_append_left _ (List.mem_append_left _ (List.mem_append_right _ (hd_mem v h1.1.1.2.1)))))
            have hlv : ∀ q, q ∈ fl v → q ∈ l := fun q hq => hl q (List.mem_append_left _ (List.mem_append_left _ (List.mem_append_right _ hq)))
            have wv : ∀ q, q ∈ fl v → w ≠ q := fun q hq e => hwl (by rw [e]; exact hlv q hq)
            have fv := fun (q : Int) (hq : q ∉ fl v) (A : Option Term) (J : JT) => jd_eq3 (so := s.2 9) (nu := s.2 10) (td := s.2 11) (pa := s.2 14) (kk := kks s) (bd := bds s) (dpt v) v (Nat.le_refl _) h1.1.1.2.1 A J q hq
            have vz : ∀ q, q ∈ fl v → q ∉ fl z := fun q hq g => f3 q (List.mem_append_right _ hq) q g rfl
            have vy : ∀ q, q ∈ fl v → q ∉ fl y := fun q hq g => d3 q (List.mem_append_left _ (List.mem_append_right _ hq)) q g rfl
            cases t3 with
            | index b =>
              have hbt : (b : Int) ∈ fl (Term.add (Term.add (Term.add (.index b) v) z) y) := List.mem_append_left _ (List.mem_append_left _ (List.mem_append_left _ (List.mem_singleton.mpr rfl)))
              have hbl : (b : Int) ∈ l := hl _ hbt
              have e : ¬ (b : Int) = c := e
              have wb : w ≠ (b : Int) := fun q => hwl (by rw [q]; exact hbl)
              have cb : c ≠ (b : Int) := fun q => e q.symm
              obtain ⟨s1, s2, s3⟩ := (hC.1 b hbl e).1
              have bny : ∀ q, q ∈ fl y → q ≠ (b : Int) := fun q hq e => d3 b (List.mem_append_left _ (List.mem_append_left _ (List.mem_singleton.mpr rfl))) q hq e.symm
              have bnz : ∀ q, q ∈ fl z → q ≠ (b : Int) := fun q hq e => f3 b (List.mem_append_left _ (List.mem_singleton.mpr rfl)) q hq e.symm
              have bnv : ∀ q, q ∈ fl v → q ≠ (b : Int) := fun q hq e => k3 b (List.mem_singleton.mpr rfl) q hq e.symm
              have hs : s.2 9 b ≠ 9 ∧ s.2 9 b ≠ 13 ∧ s.2 9 b ≠ 14 ∧ s.2 9 b ≠ 10 := by
                have hf : (3 : Int) = pO (s.2 9 b) := h2
                refine ⟨fun q => ?_, fun q => ?_, fun q => ?_, fun q => ?_⟩ <;> (rw [q] at hf; exact absurd hf (by decide))
              have hBv := kid_B (S' := S) h1.1.1 (fun q => h4 _ hbt (Or.inl q)) hDv hB (fun _ q => q) (fun _ q => by cases q)
              have hBz := kid_B (S' := S) h1.1 (fun q => h4 _ hbt (Or.inl q)) hDz hB (fun _ q => q) (fun q _ => absurd q hs.2.2.2)
              have hBy := kid_B (S' := S) h1 (fun q => h4 _ hbt (Or.inl q)) hDy hB (fun _ q => q) (fun q _ => absurd q hs.2.2.2)
              rw [show rp c u (Term.add (Term.add (Term.add (.index b) v) z) y) = Term.add (Term.add (Term.add (.index b) (if hd v = c then u else rp c u v)) (if hd z = c then u else rp c u z)) (if hd y = c then u else rp c u y) from rfl]
              show LOCX s c w (jd so' nu' td' pa' kk' bd' u) _ (jd (s.2 9) (s.2 10) (s.2 11) (s.2 14) (kks s) (bds s) (Term.add (Term.add (Term.add (.index b) v) z) y) A J) _ S
              obtain ⟨Ax, Ay, Az, hA⟩ := jpk_as b A (jin b A J)
              -- a part, what is judged ahead of it and behind it
              have gen : ∀ (x x' : Term) (Aq : Option Term) (Jq : JT) (N N' : JT × Term), (∀ p, p ∈ fl x → p ∈ fl (Term.add (Term.add (Term.add (.index b) v) z) y) ∧ p ≠ (b : Int)) → c ∈ fl x → LOCX s c w (jd so' nu' td' pa' kk' bd' u) x (jds s x Aq Jq) (jd so' nu' td' pa' kk' bd' x' Aq Jq) S → (∀ q, q ≠ (b : Int) → q ∈ fl x ∨ q ∉ fl (Term.add (Term.add (Term.add (.index b) v) z) y) → EQ3 q N.1 (jds s x Aq Jq).1) → EQ3 w N'.1 (jd so' nu' td' pa' kk' bd' x' Aq Jq).1 → (hd x = c → s.2 13 c ≠ 0 ∨ s.2 12 c = b) → LOCX s c w (jd so' nu' td' pa' kk' bd' u) (Term.add (Term.add (Term.add (.index b) v) z) y) (jen (s.2 9 b) b A N) (jen (s.2 9 b) b A N') S := fun x x' Aq Jq N N' hx hcx IH hN hN' h9 => by
                refine loc_up IH e (((jen_eq cb).tr (hN c cb (Or.inl hcx))).2.1) (fun p hp => ?_) ⟨fun q => ?_, fun _ => ((jen_eq wb).tr hN').2.2⟩
                · have hp2 : (S p ∨ (p ∈ fl (Term.add (Term.add (Term.add (.index b) v) z) y) ∧ p ≠ hd (Term.add (Term.add (Term.add (.index b) v) z) y))) ∧ p ≠ (b : Int) ∧ (p ∈ fl x ∨ p ∉ fl (Term.add (Term.add (Term.add (.index b) v) z) y)) := by
                    rcases hp with hp | ⟨hp, -⟩
                    · exact ⟨Or.inl hp, fun q => hS p hp (by rw [q]; exact hbt), Or.inr (hS p hp)⟩
                    · exact ⟨Or.inr (hx p hp), (hx p hp).2, Or.inl hp⟩
                  obtain ⟨g1, g2, g3⟩ := hp2
                  have := (jen_eq (sb := s.2 9 b) (A := A) (N := N) g2).tr (hN p g2 g3)
                  exact ⟨g1, this.1, this.2.2⟩
                · rw [blw_o ((h9 q).imp id (fun g => by rw [g]; exact ⟨hs.1, hs.2.1, hs.2.2.1⟩))]
                  exact ((jen_eq wb).tr hN').2.2
              by_cases hcv : c ∈ fl v
              · have hcz : c ∉ fl z := vz c hcv
                have hcy : c ∉ fl y := vy c hcv
                rw [if_neg (fun q => hcy (by rw [← q]; exact hd_mem y h1.2.1) : ¬ hd y = c), rp_no y h1.2.1 hcy, if_neg (fun q => hcz (by rw [← q]; exact hd_mem z h1.1.2.1) : ¬ hd z = c), rp_no z h1.1.2.1 hcz, jd_3, jd_3, s1]
                refine gen v _ Ax (jin b A J) _ _ (fun p hp => ⟨List.mem_append_left _ (List.mem_append_left _ (List.mem_append_right _ hp)), bnv p hp⟩) hcv (ih v Ax (jin b A J) S (by omega) hPv hlv hBv (fun p hp q => hS p hp (List.mem_append_left _ (List.mem_append_left _ (List.mem_append_right _ q)))) hcv) (fun q qb hq => ?_) ?_ (fun q => Or.inr (by rw [← q]; exact h1.1.1.2.2.2.2.2.1))
                · have qz : q ∉ fl z := hq.elim (vz q) (fun g r => g (List.mem_append_left _ (List.mem_append_right _ r)))
                  have qy : q ∉ fl y := hq.elim (vy q) (fun g r => g (List.mem_append_right _ r))
                  exact (hA _ _ _ q qb).tr ((fy q qy _ _).tr (fz q qz _ _))
                · exact (hA _ _ _ w wb).tr ((fy' _ _).tr (fz' _ _))
              · have hVv := part_same hC hc0 hPv hlv hcv hBv hcS
                rw [if_neg (fun q => hcv (by rw [← q]; exact hd_mem v h1.1.1.2.1) : ¬ hd v = c), rp_no v h1.1.1.2.1 hcv]
                by_cases hcz : c ∈ fl z
                · have hcy : c ∉ fl y := zy c hcz
                  rw [if_neg (fun q => hcy (by rw [← q]; exact hd_mem y h1.2.1) : ¬ hd y = c), rp_no y h1.2.1 hcy, jd_3, jd_3, s1, hVv]
                  refine gen z _ Ay (jds s v Ax (jin b A J)).1 _ _ (fun p hp => ⟨List.mem_append_left _ (List.mem_append_right _ hp), bnz p hp⟩) hcz (ih z Ay _ S (by omega) hPz hlz hBz (fun p hp q => hS p hp (List.mem_append_left _ (List.mem_append_right _ q))) hcz) (fun q qb hq => ?_) ?_ (fun q => Or.inl (by
                    rw [← q, h1.1.2.2.2.2.2.2]
                    show (0 : Int) + 1 ≠ 0
                    decide))
                  · have qy : q ∉ fl y := hq.elim (zy q) (fun g r => g (List.mem_append_right _ r))
                    exact (hA _ _ _ q qb).tr (fy q qy _ _)
                  · exact (hA _ _ _ w wb).tr (fy' _ _)
                · have hcy : c ∈ fl y := (List.mem_append.mp hc).resolve_left (fun q => (List.mem_append.mp q).elim (fun q => (List.mem_append.mp q).elim (fun q => e (List.mem_singleton.mp q).symm) hcv) hcz)
                  have hVz := part_same hC hc0 hPz hlz hcz hBz hcS
                  rw [if_neg (fun q => hcz (by rw [← q]; exact hd_mem z h1.1.2.1) : ¬ hd z = c), rp_no z h1.1.2.1 hcz, jd_3, jd_3, s1, hVv, hVz]
                  refine gen y _ Az (jds s z Ay (jds s v Ax (jin b A J)).1).1 _ _ (fun p hp => ⟨List.mem_append_right _ hp, bny p hp⟩) hcy (ih y Az _ S (by omega) hPy hly hBy (fun p hp q => hS p hp (List.mem_append_right _ q)) hcy) (fun q qb hq => hA _ _ _ q qb) (hA _ _ _ w wb) (fun q => Or.inl (by
                    rw [← q, h1.2.2.2.2.2.2]
                    show (0 : Int) + 1 + 1 ≠ 0
                    decide))
            | add t4 r =>
              exfalso
              have hf : na t4 + 1 + 1 + 1 + 1 = pO (s.2 9 (hd t4)) := h2
              have := pO_in (s.2 9 (hd t4))
              have := na_ge t4
              omega
            | _ => exact h1.1.1.1.elim
          | _ => exact h1.1.1.elim
        | _ => exact h1.1.elim
      | _ => exact h1.elim
end
end
section
/-! A trial judged by two sets of rows. -/
section
variable {x b sb : Int} {J K : JT} {A : Option Term} {N N' : JT × Term}
theorem jen_at (h1 : N.1.2.2 b = N'.1.2.2 b) (h2 : N.2 = N'.2) : (jen sb b A N).1.2.2 b = (jen sb b A N').1.2.2 b ∧ (jen sb b A N).2 = (jen sb b A N').2 := by
  have h3 : (jmd b N.2 N.1).2.2 b = (jmd b N'.2 N'.1).2.2 b := h1
  have key : (jcl sb b A N.2 (jmd b N.2 N.1)).2.2 b = (jcl sb b A N'.2 (jmd b N'.2 N'.1)).2.2 b ∧ (jcl sb b A N.2 (jmd b N.2 N.1)).1 b = (jcl sb b A N'.2 (jmd b N'.2 N'.1)).1 b := by
    have m1 : (jmd b N.2 N.1).1 b = (jmd b N'.2 N'.1).1 b := by
      show (if b = b then N.2 else _) = (if b = b then N'.2 else _)
      rw [if_pos rfl, if_pos rfl, h2]
    rw [← h2]
    cases A with
    | none => exact ⟨h3, by rw [h2]; rw [h2] at m1; exact m1⟩
    | some a =>
      show (if (jmd b N.2 N.1).2.2 b = 0 ∧ sb ≠ 10 ∧ sb ≠ 11 ∧ kmt a N.2 = false then jsr (jmd b N.2 N.1) b 6 else jmd b N.2 N.1).2.2 b = (if (jmd b N.2 N'.1).2.2 b = 0 ∧ sb ≠ 10 ∧ sb ≠ 11 ∧ kmt a N.2 = false then jsr (jmd b N.2 N'.1) b 6 else jmd b N.2 N'.1).2.2 b ∧ (if (jmd b N.2 N.1).2.2 b = 0 ∧ sb ≠ 10 ∧ sb ≠ 11 ∧ kmt a N.2 = false then jsr (jmd b N.2 N.1) b 6 else jmd b N.2 N.1).1 b = (if (jmd b N.2 N'.1).2.2 b = 0 ∧ sb ≠ 10 ∧ sb ≠ 11 ∧ kmt a N.2 = false then jsr (jmd b N.2 N'.1) b 6 else jmd b N.2 N'.1).1 b
      have h4 : (jmd b N.2 N.1).2.2 b = (jmd b N.2 N'.1).2.2 b := h1
      have m2 : (jmd b N.2 N.1).1 b = (jmd b N.2 N'.1).1 b := by
        show (if b = b then N.2 else _) = (if b = b then N.2 else _)
        rw [if_pos rfl, if_pos rfl]
      rw [h4]
      by_cases e : (jmd b N.2 N'.1).2.2 b = 0 ∧ sb ≠ 10 ∧ sb ≠ 11 ∧ kmt a N.2 = false
      · rw [if_pos e, if_pos e]
        exact ⟨by show (if b = b then (6 : Int) else _) = (if b = b then 6 else _); rw [if_pos rfl, if_pos rfl], m2⟩
      · rw [if_neg e, if_neg e]
        exact ⟨h4, m2⟩
  refine ⟨key.1, ?_⟩
  show jsee _ b = jsee _ b
  unfold jsee
  rw [key.1, key.2]
end
section
variable {so nu td pa so' nu' td' pa' : Int → Int} {kk kk' : Int → Term} {bd bd' : Int → Int → Int}
theorem jsr_b {J : JT} {b z : Int} : (jsr J b z).2.2 b = z := if_pos rfl
theorem jin_b {J : JT} {b : Int} {A : Option Term} : (jin b A J).2.2 b = 0 := if_pos rfl
/-- a hole alone -/
theorem jd_hole {b : Nat} (h : so b = 0) (A : Option Term) (J : JT) : (jd so nu td pa kk bd (.index b) A J).2 = .null ∧ ∀ x, x ≠ (b : Int) → EQ3 x (jd so nu td pa kk bd (.index b) A J).1 J := by
  rw [jd_0, h, if_pos rfl]
  refine ⟨?_, fun x hx => (jen_eq hx).tr (jin_eq hx)⟩
  show jsee (jcl 0 b A .null (jmd b .null (jin b A J))) b = .null
  unfold jsee
  split
  · rfl
  · cases A with
    | none => exact if_pos rfl
    | some a =>
      show (if (jmd b .null (jin b (some a) J)).2.2 b = 0 ∧ (0 : Int) ≠ 10 ∧ (0 : Int) ≠ 11 ∧ kmt a .null = false then jsr (jmd b .null (jin b (some a) J)) b 6 else jmd b .null (jin b (some a) J)).1 b = .null
      split <;> exact if_pos rfl
/-- rows that are alike for a trial -/
def TRI (so nu td pa : Int → Int) (kk : Int → Term) (bd : Int → Int → Int) (J : JT) (so' nu' td' pa' : Int → Int) (kk' : Int → Term) (bd' : Int → Int → Int) (J' : JT) (m : Nat) : Prop := (so' 3000 = so 3000 ∧ ∀ i : Nat, i < m → so (3001 + i) = 0 ∧ so' (3001 + i) = 0) ∧ (so 3000 = 8 ∨ so 3000 = 15 → kk' (td' 3000) = kk (td 3000)) ∧ (so 3000 = 3 → bd' 3000 (nu' 3000) = bd 3000 (nu 3000) ∧ (bd 3000 (nu 3000) = -9 ∨ (so' (bd 3000 (nu 3000)) = so (bd 3000 (nu 3000)) ∧ (so (bd 3000 (nu 3000)) = 8 → kk' (td' (bd 3000 (nu 3000))) = kk (td (bd 3000 (nu 3000)))) ∧ (so (bd 3000 (nu 3000)) ≠ 8 → ∃ p, p ≠ 3000 ∧ pa' (3 * bd 3000 (nu 3000)) = p ∧ pa (3 * bd 3000 (nu 3000)) = p ∧ J'.1 p = J.1 p ∧ J'.2.2 p = J.2.2 p))))
variable {J J' : JT} {A : Option Term}
theorem tri_0 (h : TRI so nu td pa kk bd J so' nu' td' pa' kk' bd' J' 0) (h4 : so 3000 = 0 ∨ so 3000 = 1 ∨ so 3000 = 2 ∨ so 3000 = 3) : (jd so' nu' td' pa' kk' bd' (.index 3000) A J').1.2.2 3000 = (jd so nu td pa kk bd (.index 3000) A J).1.2.2 3000 ∧ (jd so' nu' td' pa' kk' bd' (.index 3000) A J').2 = (jd so nu td pa kk bd (.index 3000) A J).2 := by
  obtain ⟨⟨s1, -⟩, -, h3⟩ := h
  rw [jd_0, jd_0]
  show (jen (so' 3000) 3000 A _).1.2.2 3000 = (jen (so 3000) 3000 A _).1.2.2 3000 ∧ (jen (so' 3000) 3000 A _).2 = (jen (so 3000) 3000 A _).2
  have s1' : so' ((3000 : Nat) : Int) = so ((3000 : Nat) : Int) := s1
  rw [s1, s1']
  have r0 : (jin 3000 A J').2.2 3000 = (jin 3000 A J).2.2 3000 := jin_b.trans jin_b.symm
  by_cases e0 : so 3000 = 0
  · have e0' : so ((3000 : Nat) : Int) = 0 := e0
    rw [if_pos e0', if_pos e0']
    exact jen_at r0 rfl
  · have e0' : ¬ so ((3000 : Nat) : Int) = 0 := e0
    rw [if_neg e0', if_neg e0']
    by_cases e1 : so 3000 = 1
    · have e1' : so ((3000 : Nat) : Int) = 1 := e1
      rw [if_pos e1', if_pos e1']
      exact jen_at r0 rfl
    · have e1' : ¬ so ((3000 : Nat) : Int) = 1 := e1
      rw [if_neg e1', if_neg e1']
      by_cases e2 : so 3000 = 2
      · have e2' : so ((3000 : Nat) : Int) = 2 := e2
        rw [if_pos e2', if_pos e2']
        exact jen_at r0 rfl
      · have e2' : ¬ so ((3000 : Nat) : Int) = 2 := e2
        rw [if_neg e2', if_neg e2']
        obtain ⟨g1, g2⟩ := h3 (((h4.resolve_left e0).resolve_left e1).resolve_left e2)
        have g1' : bd' ((3000 : Nat) : Int) (nu' ((3000 : Nat) : Int)) = bd 3000 (nu 3000) := g1
        rw [g1']
        show (jen (so 3000) 3000 A (jnm so' td' pa' kk' (bd 3000 (nu 3000)) 3000 (jin 3000 A J'))).1.2.2 3000 = (jen (so 3000) 3000 A (jnm so td pa kk (bd 3000 (nu 3000)) 3000 (jin 3000 A J))).1.2.2 3000 ∧ (jen (so 3000) 3000 A (jnm so' td' pa' kk' (bd 3000 (nu 3000)) 3000 (jin 3000 A J'))).2 = (jen (so 3000) 3000 A (jnm so td pa kk (bd 3000 (nu 3000)) 3000 (jin 3000 A J))).2
        generalize bd 3000 (nu 3000) = v at g2
        unfold jnm
        by_cases e9 : v = -9
        · rw [if_pos e9, if_pos e9]
          exact jen_at (jsr_b.trans jsr_b.symm) rfl
        · obtain ⟨u1, u2, u3⟩ := g2.resolve_left e9
          rw [if_neg e9, if_neg e9, u1]
          by_cases e8 : so v = 8
          · rw [if_pos e8, if_pos e8, u2 e8]
            exact jen_at r0 rfl
          · rw [if_neg e8, if_neg e8]
            obtain ⟨p, p0, p1, p2, p3, p4⟩ := u3 e8
            rw [p1, p2]
            refine jen_at r0 ?_
            show jsee (jin 3000 A J') p = jsee (jin 3000 A J) p
            have q1 := jin_eq (J := J') (A := A) p0
            have q2 := jin_eq (J := J) (A := A) p0
            unfold jsee
            rw [q1.2.2, q2.2.2, q1.1, q2.1, p3, p4]
theorem tri_1 (h : TRI so nu td pa kk bd J so' nu' td' pa' kk' bd' J' 1) : (jd so' nu' td' pa' kk' bd' (.add (.index 3000) (.index 3001)) A J').1.2.2 3000 = (jd so nu td pa kk bd (.add (.index 3000) (.index 3001)) A J).1.2.2 3000 ∧ (jd so' nu' td' pa' kk' bd' (.add (.index 3000) (.index 3001)) A J').2 = (jd so nu td pa kk bd (.add (.index 3000) (.index 3001)) A J).2 := by
  obtain ⟨⟨s1, hz⟩, h2, -⟩ := h
  obtain ⟨z1, z2⟩ := hz 0 (by decide)
  have a1 := fun A J => jd_hole (nu := nu) (td := td) (pa := pa) (kk := kk) (bd := bd) (b := 3001) z1 A J
  have a2 := fun A J => jd_hole (nu := nu') (td := td') (pa := pa') (kk := kk') (bd := bd') (b := 3001) z2 A J
  have n1 : (3000 : Int) ≠ ((3001 : Nat) : Int) := by decide
  rw [jd_1, jd_1]
  have s1' : so' ((3000 : Nat) : Int) = so ((3000 : Nat) : Int) := s1
  rw [s1']
  have r0 : ∀ J : JT, (jin ((3000 : Nat) : Int) A J).2.2 3000 = 0 := fun J => jin_b (b := ((3000 : Nat) : Int))
  generalize jd so nu td pa kk bd (.index 3001) = f at a1
  generalize jd so' nu' td' pa' kk' bd' (.index 3001) = f' at a2
  by_cases e8 : so ((3000 : Nat) : Int) = 8
  · have h2' : kk' (td' ((3000 : Nat) : Int)) = kk (td ((3000 : Nat) : Int)) := h2 (Or.inl e8)
    rw [if_pos e8, if_pos e8, h2']
    have key : (jdf f' ((3000 : Nat) : Int) (kk (td ((3000 : Nat) : Int))) A (jin ((3000 : Nat) : Int) A J')).1.2.2 3000 = (jdf f ((3000 : Nat) : Int) (kk (td ((3000 : Nat) : Int))) A (jin ((3000 : Nat) : Int) A J)).1.2.2 3000 ∧ (jdf f' ((3000 : Nat) : Int) (kk (td ((3000 : Nat) : Int))) A (jin ((3000 : Nat) : Int) A J')).2 = (jdf f ((3000 : Nat) : Int) (kk (td ((3000 : Nat) : Int))) A (jin ((3000 : Nat) : Int) A J)).2 := by
      unfold jdf
      split
      · refine ⟨?_, ?_⟩
        · exact (jsr_b (b := ((3000 : Nat) : Int))).trans (jsr_b (b := ((3000 : Nat) : Int))).symm
        · show kmk 3 _ (f' _ _).2 = kmk 3 _ (f _ _).2
          rw [(a1 _ _).1, (a2 _ _).1]
      · refine ⟨?_, ?_⟩
        · show (f' _ _).1.2.2 3000 = (f _ _).1.2.2 3000
          rw [((a1 _ _).2 _ n1).2.2, ((a2 _ _).2 _ n1).2.2, r0, r0]
        · show kmk 3 _ (f' _ _).2 = kmk 3 _ (f _ _).2
          rw [(a1 _ _).1, (a2 _ _).1]
    exact jen_at key.1 key.2
  · rw [if_neg e8, if_neg e8]
    by_cases e15 : so ((3000 : Nat) : Int) = 15
    · have h2' : kk' (td' ((3000 : Nat) : Int)) = kk (td ((3000 : Nat) : Int)) := h2 (Or.inr e15)
      rw [if_pos e15, if_pos e15, h2']
      refine jen_at ?_ rfl
      show (f' _ _).1.2.2 3000 = (f _ _).1.2.2 3000
      rw [((a1 _ _).2 _ n1).2.2, ((a2 _ _).2 _ n1).2.2, r0, r0]
    · rw [if_neg e15, if_neg e15]
      have key : (jhf f' (hd (Term.index 3001)) (so ((3000 : Nat) : Int)) (jin ((3000 : Nat) : Int) A J')).1.2.2 3000 = (jhf f (hd (Term.index 3001)) (so ((3000 : Nat) : Int)) (jin ((3000 : Nat) : Int) A J)).1.2.2 3000 ∧ (jhf f' (hd (Term.index 3001)) (so ((3000 : Nat) : Int)) (jin ((3000 : Nat) : Int) A J')).2 = (jhf f (hd (Term.index 3001)) (so ((3000 : Nat) : Int)) (jin ((3000 : Nat) : Int) A J)).2 := by
        unfold jhf
        rw [(a1 _ _).1, (a2 _ _).1]
        refine ⟨?_, rfl⟩
        show (f' _ _).1.2.2 3000 = (f _ _).1.2.2 3000
        rw [((a1 _ _).2 _ n1).2.2, ((a2 _ _).2 _ n1).2.2, r0, r0]
      exact jen_at key.1 key.2
end
section
variable {so nu td pa so' nu' td' pa' : Int → Int} {kk kk' : Int → Term} {bd bd' : Int → Int → Int} {J J' : JT} {A : Option Term}
theorem tri_2 (h : TRI so nu td pa kk bd J so' nu' td' pa' kk' bd' J' 2) : (jd so' nu' td' pa' kk' bd' (.add (.add (.index 3000) (.index 3001)) (.index 3002)) A J').1.2.2 3000 = (jd so nu td pa kk bd (.add (.add (.index 3000) (.index 3001)) (.index 3002)) A J).1.2.2 3000 ∧ (jd so' nu' td' pa' kk' bd' (.add (.add (.index 3000) (.index 3001)) (.index 3002)) A J').2 = (jd so nu td pa kk bd (.add (.add (.index 3000) (.index 3001)) (.index 3002)) A J).2 := by
  obtain ⟨⟨s1, hz⟩, -, -⟩ := h
  obtain ⟨z1, z2⟩ := hz 0 (by decide)
  obtain ⟨y1, y2⟩ := hz 1 (by decide)
  have a1 := fun A J => jd_hole (nu := nu) (td := td) (pa := pa) (kk := kk) (bd := bd) (b := 3001) z1 A J
  have a2 := fun A J => jd_hole (nu := nu') (td := td') (pa := pa') (kk := kk') (bd := bd') (b := 3001) z2 A J
  have b1 := fun A J => jd_hole (nu := nu) (td := td) (pa := pa) (kk := kk) (bd := bd) (b := 3002) y1 A J
  have b2 := fun A J => jd_hole (nu := nu') (td := td') (pa := pa') (kk := kk') (bd := bd') (b := 3002) y2 A J
  have n1 : (3000 : Int) ≠ ((3001 : Nat) : Int) := by decide
  have n2 : (3000 : Int) ≠ ((3002 : Nat) : Int) := by decide
  rw [jd_2, jd_2]
  have s1' : so' ((3000 : Nat) : Int) = so ((3000 : Nat) : Int) := s1
  rw [s1']
  have r0 : ∀ J : JT, (jin ((3000 : Nat) : Int) A J).2.2 3000 = 0 := fun J => jin_b (b := ((3000 : Nat) : Int))
  generalize jd so nu td pa kk bd (.index 3001) = f at a1
  generalize jd so' nu' td' pa' kk' bd' (.index 3001) = f' at a2
  generalize jd so nu td pa kk bd (.index 3002) = g at b1
  generalize jd so' nu' td' pa' kk' bd' (.index 3002) = g' at b2
  have e1 : ∀ (A1 A2 : Option Term), (g A2 (f A1 (jin ((3000 : Nat) : Int) A J)).1).1.2.2 3000 = 0 := fun A1 A2 => by rw [((b1 _ _).2 _ n2).2.2, ((a1 _ _).2 _ n1).2.2, r0]
  have e2 : ∀ (A1 A2 : Option Term), (g' A2 (f' A1 (jin ((3000 : Nat) : Int) A J')).1).1.2.2 3000 = 0 := fun A1 A2 => by rw [((b2 _ _).2 _ n2).2.2, ((a2 _ _).2 _ n1).2.2, r0]
  by_cases e9 : so ((3000 : Nat) : Int) = 9
  · rw [if_pos e9, if_pos e9]
    have key : (jus f' g' (hd (Term.index 3001)) (jin ((3000 : Nat) : Int) A J')).1.2.2 3000 = (jus f g (hd (Term.index 3001)) (jin ((3000 : Nat) : Int) A J)).1.2.2 3000 ∧ (jus f' g' (hd (Term.index 3001)) (jin ((3000 : Nat) : Int) A J')).2 = (jus f g (hd (Term.index 3001)) (jin ((3000 : Nat) : Int) A J)).2 := by
      unfold jus
      rw [(a1 _ _).1, (a2 _ _).1]
      exact ⟨(e2 _ _).trans (e1 _ _).symm, rfl⟩
    exact jen_at key.1 key.2
  · rw [if_neg e9, if_neg e9]
    by_cases e10 : so ((3000 : Nat) : Int) = 10
    · rw [if_pos e10, if_pos e10]
      exact jen_at ((e2 _ _).trans (e1 _ _).symm) ((b2 _ _).1.trans (b1 _ _).1.symm)
    · rw [if_neg e10, if_neg e10]
      by_cases e12 : so ((3000 : Nat) : Int) = 12
      · rw [if_pos e12, if_pos e12]
        have key : (jpr f' g' A (jin ((3000 : Nat) : Int) A J')).1.2.2 3000 = (jpr f g A (jin ((3000 : Nat) : Int) A J)).1.2.2 3000 ∧ (jpr f' g' A (jin ((3000 : Nat) : Int) A J')).2 = (jpr f g A (jin ((3000 : Nat) : Int) A J)).2 := by
          unfold jpr
          split
          · refine ⟨(e2 _ _).trans (e1 _ _).symm, ?_⟩
            show kmk 4 (f' _ _).2 (g' _ _).2 = kmk 4 (f _ _).2 (g _ _).2
            rw [(a1 _ _).1, (a2 _ _).1, (b1 _ _).1, (b2 _ _).1]
          · refine ⟨(e2 _ _).trans (e1 _ _).symm, ?_⟩
            show kmk 4 (f' _ _).2 (g' _ _).2 = kmk 4 (f _ _).2 (g _ _).2
            rw [(a1 _ _).1, (a2 _ _).1, (b1 _ _).1, (b2 _ _).1]
        exact jen_at key.1 key.2
      · rw [if_neg e12, if_neg e12]
        exact jen_at ((e2 _ _).trans (e1 _ _).symm) rfl
theorem tri_3 (h : TRI so nu td pa kk bd J so' nu' td' pa' kk' bd' J' 3) : (jd so' nu' td' pa' kk' bd' (.add (.add (.add (.index 3000) (.index 3001)) (.index 3002)) (.index 3003)) A J').1.2.2 3000 = (jd so nu td pa kk bd (.add (.add (.add (.index 3000) (.index 3001)) (.index 3002)) (.index 3003)) A J).1.2.2 3000 ∧ (jd so' nu' td' pa' kk' bd' (.add (.add (.add (.index 3000) (.index 3001)) (.index 3002)) (.index 3003)) A J').2 = (jd so nu td pa kk bd (.add (.add (.add (.index 3000) (.index 3001)) (.index 3002)) (.index 3003)) A J).2 := by
  obtain ⟨⟨s1, hz⟩, -, -⟩ := h
  obtain ⟨z1, z2⟩ := hz 0 (by decide)
  obtain ⟨y1, y2⟩ := hz 1 (by decide)
  obtain ⟨x1, x2⟩ := hz 2 (by decide)
  have a1 := fun A J => jd_hole (nu := nu) (td := td) (pa := pa) (kk := kk) (bd := bd) (b := 3001) z1 A J
  have a2 := fun A J => jd_hole (nu := nu') (td := td') (pa := pa') (kk := kk') (bd := bd') (b := 3001) z2 A J
  have b1 := fun A J => jd_hole (nu := nu) (td := td) (pa := pa) (kk := kk) (bd := bd) (b := 3002) y1 A J
  have b2 := fun A J => jd_hole (nu := nu') (td := td') (pa := pa') (kk := kk') (bd := bd') (b := 3002) y2 A J
  have c1 := fun A J => jd_hole (nu := nu) (td := td) (pa := pa) (kk := kk) (bd := bd) (b := 3003) x1 A J
  have c2 := fun A J => jd_hole (nu := nu') (td := td') (pa := pa') (kk := kk') (bd := bd') (b := 3003) x2 A J
  have n1 : (3000 : Int) ≠ ((3001 : Nat) : Int) := by decide
  have n2 : (3000 : Int) ≠ ((3002 : Nat) : Int) := by decide
  have n3 : (3000 : Int) ≠ ((3003 : Nat) : Int) := by decide
  rw [jd_3, jd_3]
  have s1' : so' ((3000 : Nat) : Int) = so ((3000 : Nat) : Int) := s1
  rw [s1']
  have r0 : ∀ J : JT, (jin ((3000 : Nat) : Int) A J).2.2 3000 = 0 := fun J => jin_b (b := ((3000 : Nat) : Int))
  generalize jd so nu td pa kk bd (.index 3001) = f at a1
  generalize jd so' nu' td' pa' kk' bd' (.index 3001) = f' at a2
  generalize jd so nu td pa kk bd (.index 3002) = g at b1
  generalize jd so' nu' td' pa' kk' bd' (.index 3002) = g' at b2
  generalize jd so nu td pa kk bd (.index 3003) = k at c1
  generalize jd so' nu' td' pa' kk' bd' (.index 3003) = k' at c2
  have e1 : ∀ (A1 A2 A3 : Option Term), (k A3 (g A2 (f A1 (jin ((3000 : Nat) : Int) A J)).1).1).1.2.2 3000 = 0 := fun A1 A2 A3 => by rw [((c1 _ _).2 _ n3).2.2, ((b1 _ _).2 _ n2).2.2, ((a1 _ _).2 _ n1).2.2, r0]
  have e2 : ∀ (A1 A2 A3 : Option Term), (k' A3 (g' A2 (f' A1 (jin ((3000 : Nat) : Int) A J')).1).1).1.2.2 3000 = 0 := fun A1 A2 A3 => by rw [((c2 _ _).2 _ n3).2.2, ((b2 _ _).2 _ n2).2.2, ((a2 _ _).2 _ n1).2.2, r0]
  have key : (jpk f' g' k' ((3000 : Nat) : Int) A (jin ((3000 : Nat) : Int) A J')).1.2.2 3000 = (jpk f g k ((3000 : Nat) : Int) A (jin ((3000 : Nat) : Int) A J)).1.2.2 3000 ∧ (jpk f' g' k' ((3000 : Nat) : Int) A (jin ((3000 : Nat) : Int) A J')).2 = (jpk f g k ((3000 : Nat) : Int) A (jin ((3000 : Nat) : Int) A J)).2 := by
    unfold jpk
    split
    · exact ⟨(e2 _ _ _).trans (e1 _ _ _).symm, rfl⟩
    · rw [(b1 _ _).1, (b2 _ _).1, (c1 _ _).1, (c2 _ _).1]
      split
      · exact ⟨(e2 _ _ _).trans (e1 _ _ _).symm, rfl⟩
      · exact ⟨(jsr_b (b := ((3000 : Nat) : Int))).trans (jsr_b (b := ((3000 : Nat) : Int))).symm, rfl⟩
  exact jen_at key.1 key.2
/-- .. any trial -/
theorem tri_n {n : Nat} (hn : n < 16) (h0 : so 3000 = n) (h : TRI so nu td pa kk bd J so' nu' td' pa' kk' bd' J' (pO n).toNat) : (jd so' nu' td' pa' kk' bd' (trT n) A J').1.2.2 3000 = (jd so nu td pa kk bd (trT n) A J).1.2.2 3000 ∧ (jd so' nu' td' pa' kk' bd' (trT n) A J').2 = (jd so nu td pa kk bd (trT n) A J).2 := by
  have key : ∀ k : Nat, k < 16 → ((pO k).toNat = 0 ∧ k < 4) ∨ (pO k).toNat = 1 ∨ (pO k).toNat = 2 ∨ (pO k).toNat = 3 := by decide
  unfold trT
  rcases key n hn with ⟨e, e4⟩ | e | e | e
  · rw [e] at h ⊢
    exact tri_0 h (by rw [h0]; omega)
  · rw [e] at h ⊢
    exact tri_1 h
  · rw [e] at h ⊢
    exact tri_2 h
  · rw [e] at h ⊢
    exact tri_3 h
end
end
section
/-! An offer of the reference, by the trial alone. -/
theorem blw_cg {sp pl w : Int} {M N : JT × Term} (h1 : M.1.2.2 w = N.1.2.2 w) (h2 : M.2 = N.2) : blw sp pl w M = blw sp pl w N := by
  unfold blw
  rw [h1, h2]
section
variable {s : SM} {t : Term} {n : Nat} {v : Int} {so1 nu1 td1 pa1 : Int → Int} {kk1 : Int → Term} {bd1 : Int → Int → Int}
theorem PRT_of (h : AFT s t) : PRT s t := ⟨AT_B (by have := h.1.2.2.2.2.1; omega) t h.1.1, h.1.2.1, h.1.2.2.1, fun x hx q => (h.2.1 x (h.1.m x hx).1 (h.1.m x hx).2).2.2.2 q, fun x hx => DP_up 61 70 _ (by decide) (DP_tree h.1 x hx)⟩
theorem ofX_kks (hx : eqx [8, 15] [9, 10, 11, 12, 13, 14] s (ofX s n v)) : kks (ofX s n v) = kks s := by
  funext k
  show (if 0 ≤ k ∧ k < (ofX s n v).1 2 then kt ((ofX s n v).2 4) ((ofX s n v).2 5) ((ofX s n v).2 6) k else Term.null) = _
  rw [hx.1 2 (by decide), hx.2 4 (by decide), hx.2 5 (by decide), hx.2 6 (by decide)]
  rfl
theorem bnd_old {w : SM} (hS : SHT s t) (h9 : ∀ y, y < 3000 → w.2 9 y = s.2 9 y ∧ w.2 10 y = s.2 10 y) (h12 : ∀ y, y < 3000 → w.2 12 y = s.2 12 y ∧ w.2 13 y = s.2 13 y) : ∀ (m : Nat) (y x : Int), y ∈ fl t → bnd (w.2 9) (w.2 10) (w.2 12) (w.2 13) m y x = bnd (s.2 9) (s.2 10) (s.2 12) (s.2 13) m y x := by
  intro m
  induction m with
  | zero => intro y x _; rfl
  | succ m ih =>
    intro y x hy
    have hl := (hS.lt hy).2.2
    unfold bnd
    rw [(h12 y hl).1, (h12 y hl).2]
    by_cases e : s.2 12 y = -9
    · rw [if_pos e, if_pos e]
    · have hu := hS.up9 hy (fun w => e (by rw [w]; exact hS.2.2.2.2.2.2.1))
      have hul := (hS.lt hu).2.2
      rw [if_neg e, if_neg e, (h9 _ hul).1, (h9 _ hul).2, ih _ x hu]
/-- rows that show the same of a trial as the tree with the hole -/
def TRY (s : SM) (n : Nat) (v : Int) (so1 nu1 td1 pa1 : Int → Int) (kk1 : Int → Term) (bd1 : Int → Int → Int) : Prop := (so1 3000 = n ∧ ∀ i : Nat, (i : Int) < pO n → so1 (3001 + i) = 0) ∧ (n = 8 ∨ n = 15 → kk1 (td1 3000) = kks s 0) ∧ (n = 3 → nu1 3000 = v ∧ bd1 3000 v = bds s (s.1 16) v ∧ ∀ u, u = bds s (s.1 16) v → u ≠ -9 → so1 u = s.2 9 u ∧ (s.2 9 u = 8 → kk1 (td1 u) = kks s (s.2 11 u)) ∧ (s.2 9 u = 10 → pa1 (3 * u) = s.2 14 (3 * u)))
theorem ofB_at (h : AFT s t) (hK : KIs s) (ho : s.2 9 (s.1 16) = 0) (hn : n < 16) (hT : TRY s n v so1 nu1 td1 pa1 kk1 bd1) : (jdg (ofX s n v) (ofT s t n)).2.2 3000 = blw (s.2 9 (s.2 12 (s.1 16))) (s.2 13 (s.1 16)) 3000 (jd so1 nu1 td1 pa1 kk1 bd1 (trT n) ((jdg s t).2.1 (s.1 16)) (jdg s t)) := by
  obtain ⟨o1, o2, o3, o4, o5, o6, o7, o8, o9, o10, o11, o12, o13, o14⟩ := of_ok (so := n) (v := v) h hK ho ⟨by omega, by omega⟩
  have hS := h.1
  have hc := h.2.2
  have hcl := hS.lt hc
  have hk := ofX_kks o12
  have hbd := bnd_old hS (fun y hy => ⟨(o5 y hy).1, (o5 y hy).2.1⟩) (fun y hy => ⟨(o9 y hy).1, (o9 y hy).2.1⟩)
  have hpa : ∀ u, u ∈ fl t → s.2 9 u = 10 → s.2 14 (3 * u) ≠ s.1 16 → (ofX s n v).2 14 (3 * u) = s.2 14 (3 * u) := fun u hu _ hne => by
    have hul := hS.lt hu
    have := (o9 u hul.2.2).2.2 0 (Int.le_refl 0) (by decide) (fun q => ?_)
    · rwa [Int.add_zero] at this
    · by_cases e : s.1 16 = hd t
      · rw [e, hS.2.2.2.2.2.2.1, hS.2.2.2.2.2.2.2] at q
        omega
      · have k := ((AT_mem t hS.1 _ hc).2.2.2 e).2.2
        rw [← q, Int.add_zero] at k
        exact hne k
  have hC : CHG s (s.1 16) (fl t) ((ofX s n v).2 9) ((ofX s n v).2 10) ((ofX s n v).2 11) ((ofX s n v).2 14) (kks (ofX s n v)) (bds (ofX s n v)) := by
    refine ⟨fun x hx _ => ⟨?_, fun y => ⟨hbd 70 x y hx, ?_⟩⟩, hpa⟩
    · have hl := (hS.lt hx).2.2
      obtain ⟨a1, a2, a3⟩ := o5 x hl
      exact ⟨a1, a2, fun _ => by rw [hk, a3]⟩
    · exact (bnd_mem hS.w (nu := s.2 10) 70 x y hx).imp id (fun q => q.1)
  have hP := PRT_of h
  have hroot : ∀ z, BOK s (fun _ => False) (bds s (hd t) z) := fun z => Or.inl (by
    show bnd (s.2 9) (s.2 10) (s.2 12) (s.2 13) 70 (hd t) z = -9
    unfold bnd
    rw [if_pos hS.2.2.2.2.2.2.1])
  have hu : hd (trT n) = 3000 := (adds_hd _ _ _).1
  have hw : (3000 : Int) ∉ fl t := fun q => by have := (hS.lt q).2.2; omega
  have hL := loc (u := trT n) hC ho hu hw (dpt t) t none J0 (fun _ => False) (Nat.le_refl _) hP (fun _ q => q) hroot (fun _ q => q.elim) hc
  obtain ⟨Ac, Jc, Sc, l1, l2, l3, l4, l5⟩ := hL
  have eP : jdg (ofX s n v) (ofT s t n) = (jd ((ofX s n v).2 9) ((ofX s n v).2 10) ((ofX s n v).2 11) ((ofX s n v).2 14) (kks (ofX s n v)) (bds (ofX s n v)) (if hd t = s.1 16 then trT n else rp (s.1 16) (trT n) t) none J0).1 := rfl
  have l1 : (jdg s t).2.1 (s.1 16) = Ac := l1
  have key : (jdg (ofX s n v) (ofT s t n)).2.2 3000 = blw (s.2 9 (s.2 12 (s.1 16))) (s.2 13 (s.1 16)) 3000 (jd ((ofX s n v).2 9) ((ofX s n v).2 10) ((ofX s n v).2 11) ((ofX s n v).2 14) (kks (ofX s n v)) (bds (ofX s n v)) (trT n) Ac Jc) := by
    rw [eP]
    by_cases e : hd t = s.1 16
    · rw [l4 e, blw_o (Or.inl (by rw [← e, hS.2.2.2.2.2.2.2]; decide))]
    · exact l5 e
  rw [key, l1]
  have hpo := pO_in n
  obtain ⟨⟨t1, t2⟩, t3, t4⟩ := hT
  have htri : TRI so1 nu1 td1 pa1 kk1 bd1 (jdg s t) ((ofX s n v).2 9) ((ofX s n v).2 10) ((ofX s n v).2 11) ((ofX s n v).2 14) (kks (ofX s n v)) (bds (ofX s n v)) Jc (pO n).toNat := by
    refine ⟨⟨by rw [o6.1, t1], fun i hi => ⟨t2 i (by omega), (o7 (3001 + i) (by omega) (by omega)).1⟩⟩, fun q => ?_, fun q => ?_⟩
    · rw [t1] at q
      have q' : n = 8 ∨ n = 15 := by omega
      rw [t3 q', hk, o6.2.2]
      unfold kvl
      rw [if_pos (by omega)]
    · rw [t1] at q
      have q' : n = 3 := by omega
      obtain ⟨v1, v2, v3⟩ := t4 q'
      have nv : (ofX s n v).2 10 3000 = v := by
        rw [o6.2.1]
        unfold nvl
        rw [if_pos (by omega)]
      have eb : bds (ofX s n v) 3000 v = bds s (s.1 16) v := by
        show bnd ((ofX s n v).2 9) ((ofX s n v).2 10) ((ofX s n v).2 12) ((ofX s n v).2 13) (69 + 1) 3000 v = bnd (s.2 9) (s.2 10) (s.2 12) (s.2 13) (69 + 1) (s.1 16) v
        unfold bnd
        rw [o10, o11]
        by_cases e : s.2 12 (s.1 16) = -9
        · rw [if_pos e, if_pos e]
        · have hu := hS.up9 hc (fun w => e (by rw [w]; exact hS.2.2.2.2.2.2.1))
          have hul := (hS.lt hu).2.2
          rw [if_neg e, if_neg e, (o5 _ hul).1, (o5 _ hul).2.1, hbd 69 _ v hu]
      rw [nv, v1, eb, v2]
      refine ⟨rfl, ?_⟩
      have hb := l2 v
      have hm := bnd_mem hS.w (nu := s.2 10) 70 (s.1 16) v hc
      have v3 := v3 _ rfl
      have hm : bds s (s.1 16) v = -9 ∨ (bds s (s.1 16) v ∈ fl t ∧ (s.2 9 (bds s (s.1 16) v) = 8 ∨ s.2 9 (bds s (s.1 16) v) = 10)) := hm
      generalize bds s (s.1 16) v = u at hb hm v3
      rcases hm with e | ⟨e1, e2⟩
      · exact Or.inl e
      · right
        have hul := (hS.lt e1).2.2
        have hu0 := (hS.lt e1).1
        obtain ⟨w1, w2, w3⟩ := v3 (by omega)
        have ou := o5 u hul
        refine ⟨by rw [ou.1, w1], fun e8 => ?_, fun e8 => ?_⟩
        · rw [w1] at e8
          rw [w2 e8, hk, ou.2.2]
        · rw [w1] at e8
          have e10 := e2.resolve_left e8
          obtain ⟨b1, b2⟩ := hb.resolve_left (by omega)
          obtain ⟨b2, b3⟩ := b2.resolve_left (fun q => e8 q.1)
          obtain ⟨p1, p2, p3, p4⟩ := l3 _ b3.1
          have pl : s.2 14 (3 * u) < 3000 := by
            rcases p2 with p2 | p2
            · exact p2.elim
            · exact (hS.lt p2.1).2.2
          exact ⟨s.2 14 (3 * u), by omega, hpa u e1 e10 p1, w3 e10, p3.symm, p4.symm⟩
  obtain ⟨r1, r2⟩ := tri_n (A := Ac) hn t1 htri
  exact blw_cg r1 r2
end
end
section
/-! The desk's trial: what it says is what the reference's offer says. -/
theorem kt_shape {n m : Int} {ks ka kb sz : Int → Int} (h : KJ n m ks ka kb sz) {k : Int} (hk : vk n m k) : (knF (kt ks ka kb k) = true ↔ (ks k = 3 ∨ ks k = 0)) ∧ (knP (kt ks ka kb k) = true ↔ (ks k = 4 ∨ ks k = 0)) := by
  have h5 : ks k = 0 ∨ ks k = 1 ∨ ks k = 2 ∨ ks k = 3 ∨ ks k = 4 := by
    obtain ⟨⟨k1, k2, k3⟩, k4, k5⟩ := h
    rcases hk with hk | hk
    · by_cases e : k < 3
      · have := (k2 k hk.1 e).1; omega
      · have := (k3 k (by omega) hk.2).1; omega
    · have := (k5 k hk.1 hk.2).1; omega
  have hl := kt_leaf h (k := k)
  have hn := kt_node h hk
  rcases h5 with e | e | e | e | e
  · rw [hl.1 e, e]; decide
  · rw [hl.2.1 e, e]; decide
  · rw [hl.2.2 e, e]; decide
  · rw [hn.1 e, e]
    exact ⟨⟨fun _ => Or.inl rfl, fun _ => rfl⟩, ⟨fun q => Bool.noConfusion (show false = true from q), fun q => absurd q (by omega)⟩⟩
  · rw [hn.2 e, e]
    exact ⟨⟨fun q => Bool.noConfusion (show false = true from q), fun q => absurd q (by omega)⟩, ⟨fun _ => Or.inl rfl, fun _ => rfl⟩⟩
/-- how the desk judged the trial -/
def trM (A : Int → Nat) (c : SC) (s : SM) (t : Term) (n : Nat) : JT × Term := jds (mx (trA A n) c (trX c s n)) (trT n) ((jdg s t).2.1 (s.1 16)) (jdg s t)
def TRO (A : Int → Nat) (c e : SC) (s : SM) (t : Term) (n : Nat) (r : Int) : Prop := (∃ n' m', KJ n' m' (aI e 66) (aI e 67) (aI e 68) (aI e 69) ∧ vk n' m' r) ∧ kt (aI e 66) (aI e 67) (aI e 68) r = (trM A c s t n).2 ∧ fI e (tra n) 10 = (trM A c s t n).1.2.2 3000
section
variable {iv : List (Int × Int)} {L : Nat} {h0 : MH} {A A' : Int → Nat} {c e : SC} {s s' w : SM} {t : Term} {d : Nat} {ys : List (Nat × Nat)} {rs : List Nat}
theorem trj2 {n : Nat} {F : Int → SC → Prop} (h1 : R1 A c s t) (hT : AFT s t) (hK : KIs s) (hTR : TRc c) (hn : 1 ≤ n ∧ n < 16) (h5 : fR c (tra n) 5 = fR c (A (s.1 16)) 5) (h6 : fI c (tra n) 6 = fI c (A (s.1 16)) 6) (hD : 80 ≤ d) (hF : ∀ r e, TRK A c e t r → TRO A c e s t n r → F r e) : ck iv L h0 d 165 [vr 175, vr (tra n), vi (fI c (A (s.1 16)) 8), vi 0] c (qi F) := by
  obtain ⟨hS, hB, hc⟩ := hT
  have hX := h1.1.1
  have hI := h1.2.2.1
  obtain ⟨j1, j2, j3⟩ := h1.2.2.2
  have lt : ∀ x, x ∈ fl t → x < 3000 ∧ 0 ≤ x := fun x hx => by have := hS.m x hx; have := hS.2.2.2.2.1; omega
  obtain ⟨⟨r1, r2, r3, r4, r5, r6, r7⟩, rp⟩ := hTR n hn.1 hn.2
  have hpo := pO_in n
  have hn3 := hK.1
  have hJS := tr_js h1 hS hc hTR hn h5 h6
  have hv : VJ (trA A n) (fun x => x ∈ fl t ∨ x ∈ fl (trT n)) (fun _ => none) c (mx (trA A n) c (trX c s n)) := ⟨hX, hJS, fun b _ => ⟨rfl, rfl, rfl⟩, ⟨rfl, rfl⟩, rfl, rfl, rfl, rfl⟩
  have x0 := trX_n (c := c) (s := s) (n := n) (b := 3000) (by decide)
  have hAT := AT_tr (so := (trX c s n).2 9) (pa := (trX c s n).2 14) (up := (trX c s n).2 12) (pl := (trX c s n).2 13) hn.2 (by rw [x0.1, if_pos rfl]) (fun b b0 b1 => by
    obtain ⟨x9, x10, x11, x12, x13⟩ := trX_n (c := c) (s := s) (n := n) (b := b) ⟨by omega, b1⟩
    rw [if_neg (by omega)] at x9 x12 x13
    exact ⟨x9, x12, x13, trX_p ⟨b0, b1⟩⟩)
  obtain ⟨t1, t2, t3, t4⟩ := hAT
  have hup : s.2 12 (s.1 16) = -9 ∨ s.2 12 (s.1 16) ∈ fl t := by
    by_cases w : s.1 16 = hd t
    · left; rw [w]; exact hS.2.2.2.2.2.2.1
    · right; exact hS.up9 hc w
  have e12 : (trX c s n).2 12 3000 = s.2 12 (s.1 16) := by rw [x0.2.2.2.1, if_pos rfl]
  have e13 : (trX c s n).2 13 3000 = s.2 13 (s.1 16) := by rw [x0.2.2.2.2, if_pos rfl]
  have dp0 : DP ((trX c s n).2 12) 61 3000 := by
    have := DP_tree hS _ hc
    unfold DP at this ⊢
    rw [e12]
    rcases this with q | q
    · exact Or.inl q
    · right
      have hu : s.2 12 (s.1 16) ∈ fl t := hup.resolve_left (fun w => by omega)
      exact ⟨q.1, DP_tr hS _ _ hu q.2⟩
  have hPT : PRT (mx (trA A n) c (trX c s n)) (trT n) := by
    refine ⟨t1, t2, t3, fun x hx q => ?_, fun x hx => ?_⟩
    · have m := trT_mem hx
      obtain ⟨x9, x10, x11, x12, x13⟩ := trX_n (c := c) (s := s) (n := n) (b := x) ⟨by omega, by omega⟩
      have q : (trX c s n).2 9 x = 8 ∨ (trX c s n).2 9 x = 15 := q
      show 0 ≤ (trX c s n).2 11 x ∧ (trX c s n).2 11 x < fI c 65 4
      rw [x9] at q
      by_cases w : x = 3000
      · rw [if_pos w] at q
        have ez : tra n + 2 * ((3000 : Int) - 3000).toNat = tra n := by simp
        rw [w] at x11
        rw [ez] at x11
        rw [w, x11, r7 (by omega), hI.1]
        omega
      · rw [if_neg w] at q
        omega
    · have m := trT_mem hx
      obtain ⟨x9, x10, x11, x12, x13⟩ := trX_n (c := c) (s := s) (n := n) (b := x) ⟨by omega, by omega⟩
      by_cases w : x = 3000
      · rw [w]
        exact DP_up 61 70 _ (by decide) dp0
      · rw [if_neg w] at x12
        refine DP_up 62 70 _ (by decide) ?_
        show (trX c s n).2 12 x = -9 ∨ ((0 ≤ (trX c s n).2 12 x ∧ (trX c s n).2 12 x < 3004) ∧ DP ((trX c s n).2 12) 61 ((trX c s n).2 12 x))
        right
        rw [x12]
        exact ⟨by decide, dp0⟩
  have ebd : ∀ x, bds (mx (trA A n) c (trX c s n)) 3000 x = bnd (s.2 9) (s.2 10) (s.2 12) (s.2 13) 70 (s.1 16) x := fun x => by
    show bnd ((trX c s n).2 9) ((trX c s n).2 10) ((trX c s n).2 12) ((trX c s n).2 13) (69 + 1) 3000 x = bnd (s.2 9) (s.2 10) (s.2 12) (s.2 13) (69 + 1) (s.1 16) x
    unfold bnd
    rw [e12, e13]
    by_cases w : s.2 12 (s.1 16) = -9
    · rw [if_pos w, if_pos w]
    · have hu := hup.resolve_left w
      rw [if_neg w, if_neg w, trX_o (lt _ hu).1 (by decide : (9 : Nat) ≠ 14), trX_o (lt _ hu).1 (by decide : (10 : Nat) ≠ 14), bnd_tr hS 69 _ x hu]
  have hPJ : PRJ (mx (trA A n) c (trX c s n)) (hd (trT n)) (fl (trT n)) (jdg s t) (fun x => x ∈ fl t) := by
    refine ⟨j1, fun x => ?_, fun x hx => ?_, fun x hx w => ?_⟩
    · rw [t4, ebd]
      rcases bnd_mem hS.w (nu := s.2 10) 70 (s.1 16) x hc with q | ⟨q1, q2⟩
      · exact Or.inl q
      · right
        generalize bnd (s.2 9) (s.2 10) (s.2 12) (s.2 13) 70 (s.1 16) x = u at q1 q2
        have hul := lt u q1
        refine ⟨by omega, ?_⟩
        have o9 : (mx (trA A n) c (trX c s n)).2 9 u = s.2 9 u := (trX_o (c := c) (s := s) (n := n) hul.1 (by decide : (9 : Nat) ≠ 14))
        have o11 : (mx (trA A n) c (trX c s n)).2 11 u = s.2 11 u := (trX_o (c := c) (s := s) (n := n) hul.1 (by decide : (11 : Nat) ≠ 14))
        have o14 : (mx (trA A n) c (trX c s n)).2 14 (3 * u) = s.2 14 (3 * u) := (trX_14 (c := c) (s := s) (n := n) (by omega))
        have o2 : (mx (trA A n) c (trX c s n)).1 2 = fI c 65 4 := rfl
        rw [o9, o11, o14, o2, hI.1]
        rcases q2 with q2 | q2
        · left
          have := (hB u (hS.m u q1).1 (hS.m u q1).2).2.2.2 (Or.inl q2)
          exact ⟨q2, this⟩
        · right
          have p10 : 0 < pO 10 := by decide
          have hk := ((AT_mem t hS.1 u q1).2.2.1 0 (Int.le_refl 0) (by rw [q2]; exact p10) (fun w => by have := hS.2.1; unfold full at this; rw [this, ← w, q2]; exact p10)).1
          rw [Int.add_zero] at hk
          have := lt _ hk
          exact ⟨q2, hk, by omega, by omega⟩
    · obtain ⟨⟨g1, g2⟩, g3, g4⟩ := j3 x hx
      have o19 : (mx (trA A n) c (trX c s n)).2 19 x = fI c (A x) 9 := by show fI c (trA A n x) 9 = _; rw [trA_o (lt x hx).1]
      have o20 : (mx (trA A n) c (trX c s n)).2 20 x = fI c (A x) 8 := by show fI c (trA A n x) 8 = _; rw [trA_o (lt x hx).1]
      have o21 : (mx (trA A n) c (trX c s n)).2 21 x = fI c (A x) 10 := by show fI c (trA A n x) 10 = _; rw [trA_o (lt x hx).1]
      rw [o19, o20, o21]
      exact ⟨⟨g1, g2⟩, g3, g4⟩
    · have := trT_mem w
      have := lt x hx
      omega
  have hla : (fl (trT n)).length ≤ 4 := by
    unfold trT
    rw [adds_len]
    have : (fl (Term.index 3000)).length = 1 := rfl
    omega
  have hdp := dpt_len _ t1
  have hak : aK (mx (trA A n) c (trX c s n)) (fI c (A (s.1 16)) 8) ((jdg s t).2.1 (s.1 16)) := (j3 _ hc).2.1
  have h3 : (mx (trA A n) c (trX c s n)).1 3 = fI c 65 5 := rfl
  have spec := jsp_alld (iv := iv) (L := L) (h0 := h0) (Ad := trA A n) (Tn := fun x => x ∈ fl t ∨ x ∈ fl (trT n)) (dpt (trT n)) (fun _ => none) (trT n) (mx (trA A n) c (trX c s n)) (fI c (A (s.1 16)) 8) ((jdg s t).2.1 (s.1 16)) (jdg s t) (fun x => x ∈ fl t) (Nat.le_refl _) hPT hPJ hak (by rw [h3]; omega) ⟨fun _ q => Or.inr q, fun x q => absurd rfl q⟩
  have eA : trA A n (hd (trT n)) = tra n := by rw [t4]; unfold trA; rw [if_pos (by decide)]; simp
  have spec2 := spec c 0 hv (Int.le_refl _) (by omega)
  have tg : (tgM (trA A n) 88 [vr 307, vi (hd (trT n)), vi (fI c (A (s.1 16)) 8)] 0) = (165, [vr 175, vr (tra n), vi (fI c (A (s.1 16)) 8), vi 0]) := by
    show (165, [vr 175, vr (trA A n (hd (trT n))), vi (fI c (A (s.1 16)) 8), vi 0]) = _
    rw [eA]
  rw [tg] at spec2
  refine inQ spec2 (by omega) ?_
  rintro r e w hvw hxw ⟨p1, p2, ⟨p3, p3b⟩, p4⟩
  obtain ⟨hXe, -, hJe, ⟨g1, g2⟩, g4, g5, g6, g7⟩ := hvw
  have hlt := p3.lt p1.2.1.1.1.2 p1.2.1.2.1
  have hw3 : w.1 3 ≤ 1320 := by rw [h3] at p2; omega
  have p5 := p1.2.1
  have q3 : (3000 : Int) ∈ fl (trT n) := trT_in (by omega)
  obtain ⟨-, -, b3⟩ := hJe 3000 (Or.inr q3)
  have et : trA A n 3000 = tra n := by unfold trA; rw [if_pos (by decide)]; simp
  rw [et] at b3
  have b3 : fI e (tra n) 10 = w.2 21 3000 := b3
  have hO : TRO A c e s t n r := by
    refine ⟨⟨w.1 2, w.1 3, ?_, p3⟩, ?_, b3.trans (p4 3000 (Or.inr q3)).2.2.1⟩
    · rw [g4, g5, g6, g7]; exact p5
    · rw [g4, g5, g6]; exact p3b
  refine hF r e ⟨hxw, by omega, fun x hx => ?_, ?_, fun k hk => ?_⟩ hO
  · obtain ⟨a1, a2, a3⟩ := hJe x (Or.inl hx)
    obtain ⟨b1, b2, b3⟩ := p1.2.2.2 x (fun w' => by have := trT_mem w'; have := lt x hx; omega)
    rw [trA_o (lt x hx).1] at a1 a2 a3
    have o19 : (mx (trA A n) c (trX c s n)).2 19 x = fI c (A x) 9 := by show fI c (trA A n x) 9 = _; rw [trA_o (lt x hx).1]
    have o20 : (mx (trA A n) c (trX c s n)).2 20 x = fI c (A x) 8 := by show fI c (trA A n x) 8 = _; rw [trA_o (lt x hx).1]
    have o21 : (mx (trA A n) c (trX c s n)).2 21 x = fI c (A x) 10 := by show fI c (trA A n x) 10 = _; rw [trA_o (lt x hx).1]
    have a3 : fI e (A x) 10 = w.2 21 x := a3
    rw [a1, a2, a3, b1, b2, b3, o19, o20, o21]
    exact ⟨rfl, rfl, rfl⟩
  · exact g1.trans (p1.1.1 2 (by decide))
  · rw [g4, g5, g6, g7]
    exact p1.2.2.1.2.2 k (by rw [h3]; exact hk)
/-- the desk's rows show of the trial what the tree with the hole shows -/
theorem try_tr {n : Nat} {v : Int} (h1 : R1 A c s t) (hT : AFT s t) (hK : KIs s) (hTR : TRc c) (hn : 1 ≤ n ∧ n < 16) (hv : n = 3 → fI c (tra 3) 4 = v) : TRY s n v ((mx (trA A n) c (trX c s n)).2 9) ((mx (trA A n) c (trX c s n)).2 10) ((mx (trA A n) c (trX c s n)).2 11) ((mx (trA A n) c (trX c s n)).2 14) (kks (mx (trA A n) c (trX c s n))) (bds (mx (trA A n) c (trX c s n))) := by
  obtain ⟨hS, hB, hc⟩ := hT
  have hI := h1.2.2.1
  obtain ⟨⟨r1, r2, r3, r4, r5, r6, r7⟩, rp⟩ := hTR n hn.1 hn.2
  have hpo := pO_in n
  have hn3 := hK.1
  have lt : ∀ x, x ∈ fl t → x < 3000 ∧ 0 ≤ x := fun x hx => by have := hS.m x hx; have := hS.2.2.2.2.1; omega
  have hkk : ∀ k, 0 ≤ k → k < s.1 2 → kks (mx (trA A n) c (trX c s n)) k = kks s k := fun k k0 k1 => by
    show (if 0 ≤ k ∧ k < fI c 65 4 then ktc c k else Term.null) = kks s k
    rw [if_pos ⟨k0, by rw [hI.1]; exact k1⟩]
    exact hI.kks hK k0 k1
  have x0 := trX_n (c := c) (s := s) (n := n) (b := 3000) (by decide)
  have e0 : tra n + 2 * ((3000 : Int) - 3000).toNat = tra n := by simp
  rw [e0] at x0
  refine ⟨⟨?_, fun i hi => ?_⟩, fun q => ?_, fun q => ⟨?_, ?_, fun u hu hne => ?_⟩⟩
  · show (trX c s n).2 9 3000 = n
    rw [x0.1, if_pos rfl]
  · show (trX c s n).2 9 (3001 + i) = 0
    rw [(trX_n (c := c) (s := s) (n := n) (b := 3001 + i) (by omega)).1, if_neg (by omega)]
  · show kks (mx (trA A n) c (trX c s n)) ((trX c s n).2 11 3000) = kks s 0
    rw [x0.2.2.1, r7 (by omega)]
    exact hkk 0 (Int.le_refl _) (by omega)
  · show (trX c s n).2 10 3000 = v
    rw [x0.2.1, ← hv q, q]
  · show bnd ((trX c s n).2 9) ((trX c s n).2 10) ((trX c s n).2 12) ((trX c s n).2 13) (69 + 1) 3000 v = bnd (s.2 9) (s.2 10) (s.2 12) (s.2 13) (69 + 1) (s.1 16) v
    unfold bnd
    rw [x0.2.2.2.1, if_pos rfl, x0.2.2.2.2, if_pos rfl]
    by_cases w : s.2 12 (s.1 16) = -9
    · rw [if_pos w, if_pos w]
    · have hu := hS.up9 hc (fun q => w (by rw [q]; exact hS.2.2.2.2.2.2.1))
      rw [if_neg w, if_neg w, trX_o (lt _ hu).1 (by decide : (9 : Nat) ≠ 14), trX_o (lt _ hu).1 (by decide : (10 : Nat) ≠ 14), bnd_tr hS 69 _ v hu]
  · have hm := bnd_mem hS.w (nu := s.2 10) 70 (s.1 16) v hc
    have hm : bds s (s.1 16) v = -9 ∨ (bds s (s.1 16) v ∈ fl t ∧ (s.2 9 (bds s (s.1 16) v) = 8 ∨ s.2 9 (bds s (s.1 16) v) = 10)) := hm
    rw [← hu] at hm
    obtain ⟨m1, m2⟩ := hm.resolve_left hne
    have hl := lt u m1
    refine ⟨trX_o hl.1 (by decide : (9 : Nat) ≠ 14), fun e8 => ?_, fun _ => trX_14 (c := c) (s := s) (n := n) (b := 3 * u) (by omega)⟩
    show kks (mx (trA A n) c (trX c s n)) ((trX c s n).2 11 u) = kks s (s.2 11 u)
    rw [trX_o hl.1 (by decide : (11 : Nat) ≠ 14)]
    have := (hB u (hS.m u m1).1 (hS.m u m1).2).2.2.2 (Or.inl e8)
    exact hkk _ this.1 this.2
theorem ofB_tr {n : Nat} {v : Int} (h1 : R1 A c s t) (hT : AFT s t) (hK : KIs s) (hTR : TRc c) (ho : s.2 9 (s.1 16) = 0) (hn : 1 ≤ n ∧ n < 16) (hv : n = 3 → fI c (tra 3) 4 = v) : ofB s t n v = decide (blw (s.2 9 (s.2 12 (s.1 16))) (s.2 13 (s.1 16)) 3000 (trM A c s t n) = 0) := by
  unfold ofB
  rw [ofB_at hT hK ho hn.2 (try_tr h1 hT hK hTR hn hv)]
  rfl
end
end
section
/-! What the desk's trial answers. -/
section
variable {iv : List (Int × Int)} {L : Nat} {h0 : MH} {A A' : Int → Nat} {c e : SC} {s s' w : SM} {t : Term} {d : Nat} {ys : List (Nat × Nat)} {rs : List Nat}
theorem trial2_c {c0 : SC} {n : Nat} {v0 : Int} {F : Int → SC → Prop} (h : OFI A c0 c s t) (hT : AFT s t) (hK : KIs s) (ho : s.2 9 (s.1 16) = 0) (hn : 1 ≤ n ∧ n < 16) (hv : n = 3 → fI c (tra 3) 4 = v0) (hD : 82 ≤ d) (hF : ∀ e, OFI A c0 e s t → (aI e 195 = aI c 195 ∧ aI e 196 = aI c 196) → F (if ofB s t n v0 = true then 1 else 0) e) : ck iv L h0 d 164 [vr 175, vr (tra n), vr (A (s.1 16))] c (qi F) := by
  obtain ⟨d, rfl⟩ : ∃ k, d = k + 1 := ⟨d - 1, by omega⟩
  obtain ⟨h1, hTR, hx0, hr0⟩ := h
  have hS := hT.1
  have hX := h1.1.1
  have hk : kl c 175 = 3 ∧ kl c 65 = 4 ∧ fR c 175 0 = 65 ∧ fR c 65 0 = 66 ∧ kl c 66 = 100 ∧ le c 66 = 1440 := by simp only [hX.1]; exact ⟨trivial, trivial, trivial, trivial, trivial, trivial⟩
  obtain ⟨⟨r1, r2, r3, r4, r5, r6, r7⟩, rp⟩ := hTR n hn.1 hn.2
  obtain ⟨z1, z2⟩ := tra_in n hn.2
  have z1 := z1 (by omega)
  have hpo := pO_in n
  have hcb := hS.m _ hT.2.2
  have h3 := hX.2.2.1
  obtain ⟨⟨n1, n2, n3, n4, n5, n6, n7, n8⟩, n9, n10⟩ := h1.1.2.1.2 _ hcb.1 hcb.2
  have key : ky (tra n) (kl c (tra n)) = 25 := by unfold ky; rw [if_pos ⟨z1, by omega⟩]
  generalize hc1 : uI (uR c (tra n) 5 (fR c (A (s.1 16)) 5)) (tra n) 6 (fI c (A (s.1 16)) 6) = c1
  have hx1 : CX trY trR c c1 := by
    rw [← hc1]
    exact (CX.rf.uR (fun _ => by rw [key]; decide)).uI (fun _ => by rw [kl_uR, key]; decide)
  have fo : ∀ a y, a ≠ tra n → fI c1 a y = fI c a y ∧ fR c1 a y = fR c a y := fun a y ha => by
    rw [← hc1]
    exact ⟨by rw [fI_uI, if_neg (fun w => ha w.2), fI_uR], by rw [fR_uI, fR_uR, if_neg (fun w => ha w.2)]⟩
  have hne : ∀ x, x ∈ fl t → A x ≠ tra n := fun x hx w => by
    have := (h1.1.2.1.2 x (hS.m x hx).1 (hS.m x hx).2).2.2
    omega
  have ai1 : ∀ a, aI c1 a = aI c a := fun a => by rw [← hc1, aI_uI, aI_uR]
  have h11 : R1 A c1 s t := R1_tr h1 hS hK hx1 (fun x hx => ⟨(fo _ 8 (hne x hx)).1, (fo _ 9 (hne x hx)).1, (fo _ 10 (hne x hx)).1⟩) (fo 65 4 (by omega)).1 (fo 65 5 (by omega)).1 (fun k _ => by rw [ai1, ai1, ai1, ai1]; exact ⟨rfl, rfl, rfl, rfl⟩)
  have hTR1 : TRc c1 := hTR.up hX hx1 (by decide) (by decide) (fun m i m1 m16 hi => by
    have hpm := pO_in m
    have := tra_ne m m16 i (by omega) n hn.2 hi hn.1
    exact ⟨(fo _ 5 this).2, (fo _ 6 this).1⟩)
  have hcur := hne _ hT.2.2
  have e5 : fR c1 (tra n) 5 = fR c1 (A (s.1 16)) 5 := by rw [(fo _ 5 hcur).2, ← hc1, fR_uI, fR_uR, if_pos ⟨rfl, rfl⟩]
  have e6 : fI c1 (tra n) 6 = fI c1 (A (s.1 16)) 6 := by rw [(fo _ 6 hcur).1, ← hc1, fI_uI, if_pos ⟨rfl, rfl⟩]
  have e8 : fI c1 (A (s.1 16)) 8 = fI c (A (s.1 16)) 8 := (fo _ 8 hcur).1
  refine C164 ⟨hk.1, by rw [hk.2.2.1]; exact hk.2.1, n1, r2, ?_⟩
  rw [hc1, hk.2.2.1, ← e8]
  refine trj2 h11 hT hK hTR1 hn e5 e6 (by omega) (fun r e he hO2 => ?_)
  obtain ⟨⟨he1, he2⟩, he3, he4, he5, he6⟩ := he
  have hX1 := h11.1.1
  have hXe : FIX e := hX1.x he1 (by decide) (by decide)
  have hke : kl e 175 = 3 ∧ kl e 65 = 4 ∧ fR e 175 0 = 65 ∧ fR e 65 0 = 66 ∧ kl e 66 = 100 ∧ le e 66 = 1440 := by simp only [hXe.1]; exact ⟨trivial, trivial, trivial, trivial, trivial, trivial⟩
  have hn1 : nxt c ≤ nxt c1 := hx1.n
  have kle : ∀ a, a < nxt c → kl e a = kl c a := fun a ha => (he1.k (by omega)).trans (hx1.k ha)
  have hx2 : CX trY trR c1 (uI e 65 5 (fI c 65 5)) := (he1.up (by decide) (by decide)).uI (fun _ => by rw [hke.2.1]; decide)
  have f65 : fI c1 65 5 = fI c 65 5 := (fo 65 5 (by omega)).1
  have hR : R1 A (uI e 65 5 (fI c 65 5)) s t := R1_tr h11 hS hK hx2 (fun x hx => by
    have hA := (h11.1.2.1.2 x (hS.m x hx).1 (hS.m x hx).2).2.2
    rw [fI_uI, if_neg (by omega), fI_uI, if_neg (by omega), fI_uI, if_neg (by omega)]
    exact he4 x hx) (by rw [fI_uI, if_neg (by omega)]; exact he5) (by rw [fI_uI, if_pos ⟨rfl, rfl⟩, f65]) (fun k hk' => he6 k hk')
  have hTRe : TRc (uI e 65 5 (fI c 65 5)) := hTR1.up hX1 hx2 (by decide) (by decide) (fun m i m1 m16 hi => by
    obtain ⟨y1, y2⟩ := tra_in m m16
    have y1 := y1 (by omega)
    have kk : ky (tra m + 2 + 2 * i) (kl c1 (tra m + 2 + 2 * i)) = 25 := by unfold ky; rw [if_pos (by omega)]
    rw [fR_uI, fI_uI, if_neg (by omega)]
    exact ⟨he1.r (by omega) (by rw [kk]; decide), he1.i (by omega) (by rw [kk]; decide)⟩)
  have hO : OFI A c0 (uI e 65 5 (fI c 65 5)) s t := ⟨hR, hTRe, hx0.tr (hx1.tr hx2), by
    have hr1 : RMk 0 0 c c1 := by rw [← hc1]; exact RMk.rf
    exact (hr0.tr hr1).tr he2⟩
  have hkcur : kl e (A (s.1 16)) = 5 := by rw [kle _ (by omega)]; exact n1
  have hktr : kl e (tra n) = 5 := by rw [kle _ (by omega)]; exact r2
  have hv1 : n = 3 → fI c1 (tra 3) 4 = v0 := fun q => by
    rw [← hv q, ← hc1, fI_uI, if_neg (by omega), fI_uR]
  have hOB := ofB_tr h11 hT hK hTR1 ho hn hv1
  obtain ⟨⟨n', m', hKJ, hvk⟩, hkt, hrs⟩ := hO2
  have hsh := kt_shape hKJ hvk
  rw [hkt] at hsh
  have hrow : aI (uI e 65 5 (fI c 65 5)) 195 = aI c 195 ∧ aI (uI e 65 5 (fI c 65 5)) 196 = aI c 196 := by
    refine ⟨?_, ?_⟩
    · funext i
      rw [aI_uI, he1.ai (by omega) (by unfold rk; rw [if_pos (by decide)]; decide), ai1]
    · funext i
      rw [aI_uI, he1.ai (by omega) (by unfold rk; rw [if_pos (by decide)]; decide), ai1]
  generalize trM A c1 s t n = M at hOB hkt hrs hsh
  have fin : ∀ v : Int, v = (if blw (s.2 9 (s.2 12 (s.1 16))) (s.2 13 (s.1 16)) 3000 M = 0 then 1 else 0) → F v (uI e 65 5 (fI c 65 5)) := fun v hv => by
    have := hF _ hO hrow
    rw [hOB] at this
    rw [hv]
    by_cases q : blw (s.2 9 (s.2 12 (s.1 16))) (s.2 13 (s.1 16)) 3000 M = 0
    · rw [if_pos q]
      rwa [if_pos (decide_eq_true q)] at this
    · rw [if_neg q]
      rwa [if_neg (by rw [decide_eq_false q]; decide)] at this
  have fR5 : fR e (A (s.1 16)) 5 = A (s.2 12 (s.1 16)) := by
    have := (hR.1.2.2.1.1 _ hT.2.2).1
    rw [fR_uI] at this
    exact this
  -- no node above, or not its first part
  have out : s.2 13 (s.1 16) ≠ 0 → (kl e 175 = 3) ∧ (kl e 65 = 4) ∧ (kl e (tra n) = 5) ∧ ((fI e (tra n) 10 ≠ 0 → F 0 (uI e 65 5 (fI c 65 5))) ∧ (fI e (tra n) 10 = 0 → F 1 (uI e 65 5 (fI c 65 5)))) := fun hp => by
    refine ⟨hke.1, hke.2.1, hktr, fun q => fin 0 ?_, fun q => fin 1 ?_⟩
    · rw [blw_o (Or.inl hp), if_neg (by rw [← hrs]; exact q)]
    · rw [blw_o (Or.inl hp), if_pos (by rw [← hrs]; exact q)]
  rw [hke.2.2.1]
  refine ⟨hkcur, fun q => out (fun w => ?_), fun q => ?_⟩
  · -- nothing above: the top
    rw [fR5] at q
    by_cases e0 : s.1 16 = hd t
    · rw [e0, hS.2.2.2.2.2.2.2] at w
      exact absurd w (by decide)
    · have hu := hS.up9 hT.2.2 e0
      have hu2 := (h1.1.2.1.2 _ (hS.m _ hu).1 (hS.m _ hu).2).2.2
      omega
  · rw [fR5] at q
    have hu : 0 ≤ s.2 12 (s.1 16) ∧ s.2 12 (s.1 16) < s.1 8 := Classical.byContradiction fun w => q (h1.1.2.1.1 _ w)
    have hne : s.1 16 ≠ hd t := fun e0 => by
      rw [e0, hS.2.2.2.2.2.2.1] at hu
      omega
    have hpl : fI e (A (s.1 16)) 6 = s.2 13 (s.1 16) := by
      have := (hR.1.2.2.1.1 _ hT.2.2).2.1 hne
      rw [fI_uI, if_neg (fun w => by omega)] at this
      exact this
    rw [hpl]
    refine ⟨fun w => out w, fun w => ?_⟩
    have hu2 := h1.1.2.1.2 _ hu.1 hu.2
    have hsort : fI e (A (s.2 12 (s.1 16))) 1 = s.2 9 (s.2 12 (s.1 16)) := by
      have := (hR.1.2.1.2 _ hu.1 hu.2).1.2.2.2.2.1
      rw [fI_uI, if_neg (fun w => by omega)] at this
      exact this
    rw [fR5]
    refine ⟨by rw [kle _ (by omega)]; exact hu2.1.1, hke.1, ?_⟩
    rw [hsort]
    rw [w] at fin
    have fin2 : ∀ z : Int, (M.1.2.2 3000 = 0 → blw (s.2 9 (s.2 12 (s.1 16))) 0 3000 M = z) → (M.1.2.2 3000 ≠ 0 → blw (s.2 9 (s.2 12 (s.1 16))) 0 3000 M ≠ 0) → ((z = 0 → (kl e 175 = 3) ∧ (kl e (fR e 175 0) = 4) ∧ (kl e (tra n) = 5) ∧ ((fI e (tra n) 10 ≠ 0 → F 0 (uI e (fR e 175 0) 5 (fI c 65 5))) ∧ (fI e (tra n) 10 = 0 → F 1 (uI e (fR e 175 0) 5 (fI c 65 5))))) ∧ (z ≠ 0 → (kl e 175 = 3) ∧ (kl e (fR e 175 0) = 4) ∧ (kl e (tra n) = 5) ∧ ((fI e (tra n) 10 ≠ 0 → F 0 (uI e (fR e 175 0) 5 (fI c 65 5))) ∧ (fI e (tra n) 10 = 0 → F 0 (uI e (fR e 175 0) 5 (fI c 65 5)))))) := fun z g0 g1 => by
      rw [hke.2.2.1, hrs]
      refine ⟨fun z0 => ⟨hke.1, hke.2.1, hktr, fun q => fin 0 ?_, fun q => fin 1 ?_⟩, fun z0 => ⟨hke.1, hke.2.1, hktr, fun q => fin 0 ?_, fun q => fin 0 ?_⟩⟩
      · rw [if_neg (g1 q)]
      · rw [if_pos (by rw [g0 q]; exact z0)]
      · rw [if_neg (g1 q)]
      · rw [if_neg (by rw [g0 q]; exact z0)]
    have nz : M.1.2.2 3000 ≠ 0 → blw (s.2 9 (s.2 12 (s.1 16))) 0 3000 M ≠ 0 := fun q => by
      unfold blw
      rw [if_pos (Or.inl q)]
      exact q
    have bz : M.1.2.2 3000 = 0 → blw (s.2 9 (s.2 12 (s.1 16))) 0 3000 M = if s.2 9 (s.2 12 (s.1 16)) = 9 then (if knF M.2 then 0 else 2) else if s.2 9 (s.2 12 (s.1 16)) = 13 ∨ s.2 9 (s.2 12 (s.1 16)) = 14 then (if knP M.2 then 0 else 3) else 0 := fun q => by
      unfold blw
      rw [if_neg (fun w => w.elim (fun w => w q) (fun w => w rfl))]
    rw [hke.2.2.1] at fin2
    refine C173 ⟨hke.1, by rw [hke.2.2.1]; exact hke.2.1, ?_⟩
    rw [hke.2.2.1, hke.2.2.2.1, hke.2.2.2.2.1, hke.2.2.2.2.2]
    generalize s.2 9 (s.2 12 (s.1 16)) = sp at fin2 nz bz
    have eF : ∀ b : Bool, b = true → (if b then (0 : Int) else 2) = 0 ∧ (if b then (0 : Int) else 3) = 0 := fun b hb => by rw [hb]; exact ⟨rfl, rfl⟩
    have eN : ∀ b : Bool, ¬ b = true → (if b then (0 : Int) else 2) = 2 ∧ (if b then (0 : Int) else 3) = 3 := fun b hb => by cases b <;> first | exact absurd rfl hb | exact ⟨rfl, rfl⟩
    refine ⟨rfl, he3, fun s9 => ⟨fun s13 => ⟨fun k4 => fin2 0 (fun q => ?_) nz, fun k4 => ⟨fun k0 => fin2 3 (fun q => ?_) nz, fun k0 => fin2 0 (fun q => ?_) nz⟩⟩, fun s13 => ⟨fun s14 => fin2 0 (fun q => ?_) nz, fun s14 => ⟨fun k4 => fin2 0 (fun q => ?_) nz, fun k4 => ⟨fun k0 => fin2 3 (fun q => ?_) nz, fun k0 => fin2 0 (fun q => ?_) nz⟩⟩⟩⟩, fun s9 => ⟨fun k3 => fin2 0 (fun q => ?_) nz, fun k3 => ⟨fun k0 => fin2 2 (fun q => ?_) nz, fun k0 => fin2 0 (fun q => ?_) nz⟩⟩⟩
    · rw [bz q, if_neg s9, if_pos (Or.inl s13)]; exact (eF _ (hsh.2.mpr (Or.inl k4))).2
    · rw [bz q, if_neg s9, if_pos (Or.inl s13)]; exact (eN _ (fun w => (hsh.2.mp w).elim k4 k0)).2
    · rw [bz q, if_neg s9, if_pos (Or.inl s13)]; exact (eF _ (hsh.2.mpr (Or.inr k0))).2
    · rw [bz q, if_neg s9, if_neg (fun w => w.elim s13 s14)]
    · rw [bz q, if_neg s9, if_pos (Or.inr s14)]; exact (eF _ (hsh.2.mpr (Or.inl k4))).2
    · rw [bz q, if_neg s9, if_pos (Or.inr s14)]; exact (eN _ (fun w => (hsh.2.mp w).elim k4 k0)).2
    · rw [bz q, if_neg s9, if_pos (Or.inr s14)]; exact (eF _ (hsh.2.mpr (Or.inr k0))).2
    · rw [bz q, if_pos s9]; exact (eF _ (hsh.1.mpr (Or.inl k3))).1
    · rw [bz q, if_pos s9]; exact (eN _ (fun w => (hsh.1.mp w).elim k3 k0)).1
    · rw [bz q, if_pos s9]; exact (eF _ (hsh.1.mpr (Or.inr k0))).1
end
end
section
/-! The desk's offers are the reference's. -/
/-- the offers that the desk's rows hold -/
def OD (e : SC) (O : List (Int × Int)) (z : Int) : Prop := z = O.length ∧ ∀ (j : Nat) (a : Int × Int), O[j]? = some a → aI e 195 j = a.1 ∧ aI e 196 j = a.2
theorem OD_add {e : SC} {O : List (Int × Int)} {z a b : Int} (h : OD e O z) : OD (uA (uA e 195 z a) 196 z b) (O ++ [(a, b)]) (z + 1) := by
  obtain ⟨h1, h2⟩ := h
  refine ⟨?_, fun j q hj => ?_⟩
  · rw [h1]; simp
  · rw [aI_uA, aI_uA, aI_uA, aI_uA]
    by_cases hjl : j < O.length
    · rw [List.getElem?_append_left hjl] at hj
      rw [if_neg (by omega), if_neg (by omega), if_neg (by omega), if_neg (by omega)]
      exact h2 j q hj
    · rw [List.getElem?_append_right (by omega)] at hj
      have hj0 : j = O.length := by
        have := (List.getElem?_eq_some_iff.mp hj).1
        simp at this
        omega
      subst hj0
      simp at hj
      subst hj
      rw [h1]
      simp
theorem OD.cg {c e : SC} {O : List (Int × Int)} {z : Int} (h : OD c O z) (h1 : aI e 195 = aI c 195) (h2 : aI e 196 = aI c 196) : OD e O z := ⟨h.1, fun j a hj => by rw [h1, h2]; exact h.2 j a hj⟩
/-- what is still to be offered from a sort on -/
noncomputable def rsL (s : SM) (t : Term) (x : Int) : List (Int × Int) := if x = 1 then ofO s t 1 ++ (ofO s t 2 ++ ofS s t 12 4) else if x = 2 then ofO s t 2 ++ ofS s t 12 4 else if x = 3 then ofS s t 12 4 else ofS s t (16 - x).toNat x
theorem ofS_s (s : SM) (t : Term) (m : Nat) (x : Int) : ofS s t (m + 1) x = ofO s t x ++ ofS s t m (x + 1) := rfl
theorem ofN_s (s : SM) (t : Term) (m : Nat) (x : Int) : ofN s t (m + 1) x = (if bds s (s.1 16) x ≠ -9 ∧ ofB s t 3 x = true then [((3 : Int), x)] else []) ++ ofN s t m (x + 1) := rfl
theorem ofN_0 (s : SM) (t : Term) (x : Int) : ofN s t 0 x = [] := rfl
theorem ofS_0 (s : SM) (t : Term) (x : Int) : ofS s t 0 x = [] := rfl
theorem rsL_s {s : SM} {t : Term} {x : Int} (h : 1 ≤ x ∧ x ≤ 15) : rsL s t x = (if x = 3 then [] else ofO s t x) ++ rsL s t (x + 1) := by
  unfold rsL
  by_cases e1 : x = 1
  · rw [if_pos e1, if_neg (by omega : ¬ x = 3), if_neg (by omega : ¬ x + 1 = 1), if_pos (by omega : x + 1 = 2), e1]
  · by_cases e2 : x = 2
    · rw [if_neg e1, if_pos e2, if_neg (by omega : ¬ x = 3), if_neg (by omega : ¬ x + 1 = 1), if_neg (by omega : ¬ x + 1 = 2), if_pos (by omega : x + 1 = 3), e2]
    · by_cases e3 : x = 3
      · rw [if_neg e1, if_neg e2, if_pos e3, if_pos e3, if_neg (by omega : ¬ x + 1 = 1), if_neg (by omega : ¬ x + 1 = 2), if_neg (by omega : ¬ x + 1 = 3), List.nil_append]
        have h1 : (16 - (x + 1)).toNat = 12 := by omega
        have h2 : x + 1 = 4 := by omega
        rw [h1, h2]
      · rw [if_neg e1, if_neg e2, if_neg e3, if_neg e3, if_neg (by omega : ¬ x + 1 = 1), if_neg (by omega : ¬ x + 1 = 2), if_neg (by omega : ¬ x + 1 = 3)]
        obtain ⟨m, hm⟩ : ∃ m : Nat, (16 - x).toNat = m + 1 := ⟨(15 - x).toNat, by omega⟩
        have hm2 : (16 - (x + 1)).toNat = m := by omega
        rw [hm, hm2, ofS_s]
theorem rsL_16 (s : SM) (t : Term) : rsL s t 16 = [] := by
  unfold rsL
  rw [if_neg (by decide : ¬ (16 : Int) = 1), if_neg (by decide : ¬ (16 : Int) = 2), if_neg (by decide : ¬ (16 : Int) = 3), show (16 - (16 : Int)).toNat = 0 by decide, ofS_0]
theorem ofL_rs (s : SM) (t : Term) : ofN s t 26 0 ++ rsL s t 1 = ofL s t := by
  unfold rsL ofL
  rw [if_pos rfl]
section
variable {iv : List (Int × Int)} {L : Nat} {h0 : MH} {A A' : Int → Nat} {c c0 e : SC} {s s' w : SM} {t : Term} {d : Nat} {ys : List (Nat × Nat)} {rs : List Nat}
theorem offa_c {n : Nat} {a1 a3 v0 : Int} {O : List (Int × Int)} {F : Int → SC → Prop} (h : OFI A c0 c s t) (hT : AFT s t) (hK : KIs s) (ho : s.2 9 (s.1 16) = 0) (hn : 1 ≤ n ∧ n < 16) (hv : n = 3 → fI c (tra 3) 4 = v0) (hO : OD c O a1) (ha : 0 ≤ a1 ∧ a1 < 42) (hD : 83 ≤ d) (hF : ∀ r e, OFI A c0 e s t → OD e (O ++ if ofB s t n v0 = true then [((n : Int), a3)] else []) r → (r = a1 ∨ r = a1 + 1) → F r e) : ck iv L h0 d 58 [vr 64, vi a1, vi n, vi a3] c (qi F) := by
  obtain ⟨d, rfl⟩ : ∃ k, d = k + 1 := ⟨d - 1, by omega⟩
  have h1 := h.1
  have hcur := h1.2.1.1
  obtain ⟨k1, k2, k3, ⟨k4, k5⟩, ⟨k6, k7, k8⟩, -⟩ := h1.1.1.of
  have ht := (h.2.1 n hn.1 hn.2).1.1
  refine C58 ?_
  rw [k2, k4, k6, ht, hcur]
  refine ⟨k1, k7, by rw [k8]; omega, k3, k5, trial2_c h hT hK ho hn hv (by omega) (fun e he hr => ?_)⟩
  by_cases hB : ofB s t n v0 = true
  · rw [if_pos hB] at hF ⊢
    refine ⟨fun _ => ?_, fun q => absurd q (by decide)⟩
    obtain ⟨-, -, -, -, -, ⟨j1, j2, j3⟩, j4, j5, j6⟩ := he.1.1.1.of
    have jk : kl e 64 = 1 := he.1.1.1.dk.1
    rw [j1, j2, j3, j4, j5, j6]
    exact ⟨jk, rfl, by omega, rfl, by omega, by omega, hF _ _ ((he.row hT.1 hK (Or.inl rfl)).row hT.1 hK (Or.inr rfl)) (OD_add (hO.cg hr.1 hr.2)) (Or.inr rfl)⟩
  · rw [if_neg hB] at hF ⊢
    refine ⟨fun q => absurd rfl q, fun _ => hF _ e he ?_ (Or.inl rfl)⟩
    rw [List.append_nil]
    exact hO.cg hr.1 hr.2
theorem found2_c {F : Int → SC → Prop} (h1 : R1 A c s t) (hTR : TRc c) (hT : AFT s t) (hK : KIs s) (ho : s.2 9 (s.1 16) = 0) (hD : 100 ≤ d) (hF : ∀ r e, (0 ≤ r ∧ r < 42) → OFI A c e s t → OD e (ofL s t) r → F r e) : ck iv L h0 d 57 [vr 64] c (qi F) := by
  obtain ⟨d, rfl⟩ : ∃ k, d = k + 1 := ⟨d - 1, by omega⟩
  have hS := hT.1
  have hc := hT.2.2
  obtain ⟨k1, k2, k3, -⟩ := h1.1.1.of
  have two : ∀ (m : Nat) (f : SC) (x z : Int) (O : List (Int × Int)), OFI A c f s t → 1 ≤ x → x + m = 16 → 0 ≤ z → z ≤ 25 + x → OD f O z → O ++ rsL s t x = ofL s t → wk iv L h0 (d + 1) 57 55 [lr 64, ln, li z, li x] [] f (qi F) := by
    intro m
    induction m with
    | zero =>
      intro f x z O hf x1 xm z0 z1 hO hR
      have hx : x = 16 := by omega
      rw [hx, rsL_16, List.append_nil] at hR
      exact C57_55 ⟨fun _ => hF z f (by omega) hf (by rw [← hR]; exact hO), fun q => by omega⟩
    | succ m ih =>
      intro f x z O hf x1 xm z0 z1 hO hR
      have hxs := rsL_s (s := s) (t := t) (x := x) ⟨x1, by omega⟩
      refine C57_55 ⟨fun q => by omega, fun _ => ⟨fun q => ⟨by omega, ih f (x + 1) z O hf (by omega) (by omega) z0 (by omega) hO ?_⟩, fun q => ⟨hf.1.1.1.dk.1, ?_⟩⟩⟩
      · rw [hxs, if_pos q] at hR
        exact hR
      · rw [hxs, if_neg q, ← List.append_assoc] at hR
        obtain ⟨n, rfl⟩ : ∃ n : Nat, x = n := ⟨x.toNat, by omega⟩
        exact offa_c (n := n) (v0 := 0) (a3 := -9) hf hT hK ho ⟨by omega, by omega⟩ (fun w => absurd w (by omega)) hO ⟨z0, by omega⟩ (by omega) (fun r e he hOe hr => ⟨by omega, ih e _ r _ he (by omega) (by omega) (by omega) (by omega) hOe hR⟩)
  have one : ∀ (m : Nat) (f : SC) (x z : Int) (O : List (Int × Int)), OFI A c f s t → 0 ≤ x → x + m = 26 → 0 ≤ z → z ≤ x → OD f O z → O ++ (ofN s t m x ++ rsL s t 1) = ofL s t → wk iv L h0 (d + 1) 57 12 [lr 64, lr (A (s.1 16)), li z, li x] [] f (qi F) := by
    intro m
    induction m with
    | zero =>
      intro f x z O hf x0 xm z0 z1 hO hR
      rw [ofN_0, List.nil_append] at hR
      exact C57_12 ⟨fun _ => two 15 f 1 z O hf (by decide) (by decide) z0 (by omega) hO hR, fun q => by omega⟩
    | succ m ih =>
      intro f x z O hf x0 xm z0 z1 hO hR
      have hJ := js_of hf.1.1.1 hf.1.1.2.1 hf.1.1.2.2.1 hS
      have h9 : A (-9) = 2 := hJ.1.1
      have bin : ∀ G : Nat → SC → Prop, G (A (bds s (s.1 16) x)) f → ck iv L h0 d 56 [vr (A (s.1 16)), vi x, vr 2, vi (-9)] f (qa G) := fun G hG => by
        have := nb_ok (iv := iv) (L := L) (h0 := h0) (d := d) (nu := s.2 10) (q := -9) (z := -9) (F := G) hJ (Or.inl rfl) (fun y hy => by
          have := hS.m y hy
          rw [if_neg (by omega)]) hc (DP_up 61 70 _ (by decide) (DP_tree hS _ hc)) (x := x) hG
        rw [h9] at this
        exact this
      have hm : bds s (s.1 16) x = -9 ∨ (bds s (s.1 16) x ∈ fl t ∧ (s.2 9 (bds s (s.1 16) x) = 8 ∨ s.2 9 (bds s (s.1 16) x) = 10)) := bnd_mem hS.w (nu := s.2 10) 70 (s.1 16) x hc
      have hR' : O ++ ((if bds s (s.1 16) x ≠ -9 ∧ ofB s t 3 x = true then [((3 : Int), x)] else []) ++ (ofN s t m (x + 1) ++ rsL s t 1)) = ofL s t := by
        rw [ofN_s, List.append_assoc] at hR
        exact hR
      refine C57_12 ⟨fun q => by omega, fun _ => bin _ ⟨fun q => ⟨by omega, ih f (x + 1) z O hf (by omega) (by omega) z0 (by omega) hO ?_⟩, fun q => ?_⟩⟩
      · have e : bds s (s.1 16) x = -9 := hm.resolve_right (fun w => by
          have w1 := hS.m _ w.1
          have := (hf.1.1.2.1.2 _ w1.1 w1.2).2.2
          omega)
        rw [if_neg (fun w => w.1 e), List.nil_append] at hR'
        exact hR'
      · have e : bds s (s.1 16) x ≠ -9 := fun w => q (by rw [w]; exact h9)
        have eB : (if bds s (s.1 16) x ≠ -9 ∧ ofB s t 3 x = true then [((3 : Int), x)] else []) = (if ofB s t 3 x = true then [((3 : Int), x)] else []) := by
          by_cases w : ofB s t 3 x = true
          · rw [if_pos ⟨e, w⟩, if_pos w]
          · rw [if_neg (fun g => w g.2), if_neg w]
        rw [eB, ← List.append_assoc] at hR'
        obtain ⟨j1, -, -, -, ⟨j6, j7, j8⟩, -⟩ := hf.1.1.1.of
        obtain ⟨⟨r1, r2, -⟩, -⟩ := hf.2.1 3 (by decide) (by decide)
        have r1 : aR f 194 3 = tra 3 := r1
        rw [j6, j7, j8, r1]
        refine ⟨j1, rfl, by decide, r2, offa_c (n := 3) (v0 := x) (a3 := x) (O := O) (hf.nm hS hK) hT hK ho (by decide) (fun _ => by rw [fI_uI, if_pos ⟨rfl, rfl⟩]) hO ⟨z0, by omega⟩ (by omega) (fun r e he hOe hr => ⟨by omega, ih e _ r _ he (by omega) (by omega) (by omega) (by omega) hOe hR'⟩)⟩
  refine C57 ⟨k1, by rw [k2]; exact k3, ?_⟩
  rw [k2, h1.2.1.1]
  exact one 26 c 0 0 [] ⟨h1, hTR, CX.rf, RMk.rf⟩ (by decide) (by decide) (by decide) (by decide) ⟨rfl, fun j a hj => by simp at hj⟩ (by rw [List.nil_append]; exact ofL_rs s t)
theorem offers3_c {F : Int → SC → Prop} (h1 : R1 A c s t) (hTR : TRc c) (hT : AFT s t) (hK : KIs s) (hD : 101 ≤ d) (hF : ∀ e, OFI A c e s t → F (offA s t) e) : ck iv L h0 d 22 [vr 64] c (qi F) := by
  obtain ⟨d, rfl⟩ : ∃ k, d = k + 1 := ⟨d - 1, by omega⟩
  obtain ⟨⟨d1, d2, d3, d4, d5⟩, e1, e2, e3, -⟩ := h1.cur hT
  unfold offA at hF
  refine C22 ?_
  rw [d3, e1, e3]
  refine ⟨d1, d2, e2, fun q => ?_, fun q => ?_⟩
  · rw [if_neg q] at hF
    exact hF c ⟨h1, hTR, CX.rf, RMk.rf⟩
  · rw [if_pos q] at hF
    exact found2_c h1 hTR hT hK q (by omega) (fun r e _ he hO => by rw [hO.1]; exact hF e he)
theorem offer3_c {i k : Int} {F : Int → SC → Prop} (h1 : R1 A c s t) (hTR : TRc c) (hT : AFT s t) (hK : KIs s) (hD : 101 ≤ d) (hF : ∀ e, OFI A c e s t → F (of2A s t i k) e) : ck iv L h0 d 23 [vr 64, vi i, vi k] c (qi F) := by
  obtain ⟨d, rfl⟩ : ∃ k, d = k + 1 := ⟨d - 1, by omega⟩
  obtain ⟨⟨d1, d2, d3, d4, d5⟩, e1, e2, e3, -⟩ := h1.cur hT
  have h0' : OFI A c c s t := ⟨h1, hTR, CX.rf, RMk.rf⟩
  have fin : (k = 0 ∨ k = 1) → s.2 9 (s.1 16) = 0 → ∀ r e, (0 ≤ r ∧ r < 42) → OFI A c e s t → OD e (ofL s t) r → ((i < 0 → F (-9) e) ∧ (0 ≤ i → ((i < r → ((k ≠ 0 → (kl e 64 = 1) ∧ (kl e (fR e 64 9) = 100) ∧ (0 ≤ i ∧ i < le e (fR e 64 9)) ∧ F (aI e (fR e 64 9) i) e) ∧ (k = 0 → (kl e 64 = 1) ∧ (kl e (fR e 64 8) = 100) ∧ (0 ≤ i ∧ i < le e (fR e 64 8)) ∧ F (aI e (fR e 64 8) i) e))) ∧ (r ≤ i → F (-9) e)))) := fun hk ho r e hr he hO => by
    obtain ⟨j1, -, -, -, -, ⟨j2, j3, j4⟩, j5, j6, j7⟩ := he.1.1.1.of
    rw [j2, j3, j4, j5, j6, j7]
    have hF := hF e he
    unfold of2A at hF
    rw [if_pos (by omega), if_pos ho] at hF
    refine ⟨fun q => ?_, fun q => ⟨fun qr => ?_, fun qr => ?_⟩⟩
    · rw [if_neg (by omega)] at hF
      exact hF
    · rw [if_pos q] at hF
      have hl : i.toNat < (ofL s t).length := by have := hO.1; omega
      have hg := List.getElem?_eq_getElem hl
      rw [hg] at hF
      obtain ⟨g1, g2⟩ := hO.2 _ _ hg
      have ei : ((i.toNat : Nat) : Int) = i := by omega
      rw [ei] at g1 g2
      refine ⟨fun k0 => ⟨j1, rfl, by omega, ?_⟩, fun k0 => ⟨j1, rfl, by omega, ?_⟩⟩
      · rw [g2]
        simp only [if_neg k0] at hF
        exact hF
      · rw [g1]
        simp only [if_pos k0] at hF
        exact hF
    · rw [if_pos q] at hF
      have hg : (ofL s t)[i.toNat]? = none := List.getElem?_eq_none (by have := hO.1; omega)
      rw [hg] at hF
      exact hF
  have ref : (k = 0 ∨ k = 1) → s.2 9 (s.1 16) ≠ 0 → F (-4) c := fun hk ho => by
    have hF := hF c h0'
    unfold of2A at hF
    rw [if_pos (by omega), if_neg ho] at hF
    exact hF
  refine C23 ⟨fun q => ?_, fun q => ⟨fun q1 => ?_, fun q1 => ?_⟩⟩
  · rw [d3, e1, e3]
    exact ⟨d1, d2, e2, fun ho => found2_c h1 hTR hT hK ho (by omega) (fin (Or.inl q) ho), ref (Or.inl q)⟩
  · rw [d3, e1, e3]
    exact ⟨d1, d2, e2, fun ho => found2_c h1 hTR hT hK ho (by omega) (fin (Or.inr q1) ho), ref (Or.inr q1)⟩
  · have hF := hF c h0'
    unfold of2A at hF
    rw [if_neg (by omega)] at hF
    exact hF
end
section
variable {iv : List (Int × Int)} {L : Nat} {h0 : MH} {c : SC} {s : SM} {n : Int} {d d2 : Nat} {i k : Int}
theorem ps_offers2 (h : PAIR n s c) (hdd : 410 ≤ d) (hd2 : 400 ≤ d2) : cm iv L h0 d 119 [vr 307] s (qi fun r s' => ∀ h0', ck iv L h0' d2 22 [vr 64] c (qi (PQ (n + 1) c r s'))) := by
  obtain ⟨A, t, K, Sh, V, W, hM, hD⟩ := h
  have hT := hM.1.1
  refine offers_ok hT hM.1.2.1 (by omega) (fun w hw h0' => offers3_c hD.1.1 hD.1.2.1.2.2 hT hM.1.2.1 (by omega) (fun e he => ?_))
  have := of_pair hM hD hw he
  exact ⟨rfl, PAIR_up this.1 (by omega), this.2⟩
theorem ps_offer2 (h : PAIR n s c) (hdd : 410 ≤ d) (hd2 : 400 ≤ d2) : cm iv L h0 d 120 [vr 307, vi i, vi k] s (qi fun r s' => ∀ h0', ck iv L h0' d2 23 [vr 64, vi i, vi k] c (qi (PQ (n + 1) c r s'))) := by
  obtain ⟨A, t, K, Sh, V, W, hM, hD⟩ := h
  have hT := hM.1.1
  refine offer2_ok hT hM.1.2.1 (by omega) (fun w hw h0' => offer3_c hD.1.1 hD.1.2.1.2.2 hT hM.1.2.1 (by omega) (fun e he => ?_))
  have := of_pair hM hD hw he
  exact ⟨rfl, PAIR_up this.1 (by omega), this.2⟩
end
end
