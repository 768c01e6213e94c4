/-! Judging, as a function of the tree. -/
/-- what nodes made, were asked for (none: freely), their reasons -/
abbrev JT : Type := (Int → Term) × (Int → Option Term) × (Int → Int)
abbrev JF : Type := Option Term → JT → JT × Term
def jsee (J : JT) (b : Int) : Term := if 0 < J.2.2 b then .null else J.1 b
def jsr (J : JT) (b z : Int) : JT := (J.1, J.2.1, fun x => if x = b then z else J.2.2 x)
/-- a reason, if it has none -/
def jsn (J : JT) (b z : Int) : JT := if J.2.2 b = 0 then jsr J b z else J
/-- what is asked of a part where nothing more is known -/
def jask (A : Option Term) : Option Term := match A with
  | some .null => some .null
  | _ => none
/-- what a name makes: what binds it is given -/
def jnm (so td pa : Int → Int) (kk : Int → Term) (u b : Int) (J : JT) : JT × Term := if u = -9 then (jsr J b 1, .null) else if so u = 8 then (J, kk (td u)) else (J, jsee J (pa (3 * u)))
def jdf (r0 : JF) (b : Int) (k : Term) (A : Option Term) (J : JT) : JT × Term := match A with
  | some (.add x y) => (jsr (r0 (some y) J).1 b (if kmt k x then 0 else 4), kmk 3 k (r0 (some y) J).2)
  | A => ((r0 (jask A) J).1, kmk 3 k (r0 (jask A) J).2)
def jus (r0 r1 : JF) (p0 : Int) (J : JT) : JT × Term := match (r0 none J).2 with
  | .add x y => ((r1 (some x) (r0 none J).1).1, y)
  | .null => ((r1 (some .null) (r0 none J).1).1, .null)
  | _ => ((r1 (some .null) (jsn (r0 none J).1 p0 2)).1, .null)
def jpk (r0 r1 r2 : JF) (b : Int) (A : Option Term) (J : JT) : JT × Term := match A with
  | some a => ((r2 A (r1 A (r0 (some .thrown) J).1).1).1, a)
  | none => if kmt (r1 none (r0 (some .thrown) J).1).2 (r2 none (r1 none (r0 (some .thrown) J).1).1).2 then ((r2 none (r1 none (r0 (some .thrown) J).1).1).1, ktg (r1 none (r0 (some .thrown) J).1).2 (r2 none (r1 none (r0 (some .thrown) J).1).1).2) else (jsr (r2 none (r1 none (r0 (some .thrown) J).1).1).1 b 5, .null)
def jpr (r0 r1 : JF) (A : Option Term) (J : JT) : JT × Term := match A with
  | some (.mul x y) => ((r1 (some y) (r0 (some x) J).1).1, kmk 4 (r0 (some x) J).2 (r1 (some y) (r0 (some x) J).1).2)
  | A => ((r1 (jask A) (r0 (jask A) J).1).1, kmk 4 (r0 (jask A) J).2 (r1 (jask A) (r0 (jask A) J).1).2)
def jhf (r0 : JF) (p0 sb : Int) (J : JT) : JT × Term := match (r0 none J).2 with
  | .mul x y => ((r0 none J).1, if sb = 13 then x else y)
  | .null => ((r0 none J).1, .null)
  | _ => (jsn (r0 none J).1 p0 3, .null)
/-- a node's own part of it, ahead of its making and behind it -/
def jin (b : Int) (A : Option Term) (J : JT) : JT := (J.1, fun x => if x = b then A else J.2.1 x, fun x => if x = b then 0 else J.2.2 x)
def jmd (b : Int) (m : Term) (J : JT) : JT := (fun x => if x = b then m else J.1 x, J.2)
def jcl (sb b : Int) (A : Option Term) (m : Term) (J : JT) : JT := match A with
  | none => J
  | some a => if J.2.2 b = 0 ∧ sb ≠ 10 ∧ sb ≠ 11 ∧ kmt a m = false then jsr J b 6 else J
theorem jcl_z {sb b : Int} {T m : Term} {J : JT} (h : ¬ (J.2.2 b = 0 ∧ sb ≠ 10 ∧ sb ≠ 11 ∧ kmt T m = false)) : jcl sb b (some T) m J = J := if_neg h
theorem jcl_y {sb b : Int} {T m : Term} {J : JT} (h : J.2.2 b = 0 ∧ sb ≠ 10 ∧ sb ≠ 11 ∧ kmt T m = false) : jcl sb b (some T) m J = jsr J b 6 := if_pos h
def jen (sb b : Int) (A : Option Term) (M : JT × Term) : JT × Term := (jcl sb b A M.2 (jmd b M.2 M.1), jsee (jcl sb b A M.2 (jmd b M.2 M.1)) b)
def jd (so nu td pa : Int → Int) (kk : Int → Term) (bd : Int → Int → Int) : Term → Option Term → JT → JT × Term
  | .index b, A, J => jen (so b) b A (if so b = 0 then (jin b A J, .null) else if so b = 1 then (jin b A J, .result) else if so b = 2 then (jin b A J, .thrown) else jnm so td pa kk (bd b (nu b)) b (jin b A J))
  | .add (.index b) x, A, J => jen (so b) b A (
      if so b = 8 then jdf (jd so nu td pa kk bd x) b (kk (td b)) A (jin b A J)
      else if so b = 15 then ((jd so nu td pa kk bd x (some (kk (td b))) (jin b A J)).1, kk (td b))
      else jhf (jd so nu td pa kk bd x) (hd x) (so b) (jin b A J))
  | .add (.add (.index b) x) y, A, J => jen (so b) b A (
      if so b = 9 then jus (jd so nu td pa kk bd x) (jd so nu td pa kk bd y) (hd x) (jin b A J)
      else if so b = 10 then jd so nu td pa kk bd y A (jd so nu td pa kk bd x none (jin b A J)).1
      else if so b = 12 then jpr (jd so nu td pa kk bd x) (jd so nu td pa kk bd y) A (jin b A J)
      else ((jd so nu td pa kk bd y (some .result) (jd so nu td pa kk bd x (some .result) (jin b A J)).1).1, if so b = 7 then .thrown else .result))
  | .add (.add (.add (.index b) x) y) z, A, J => jen (so b) b A (jpk (jd so nu td pa kk bd x) (jd so nu td pa kk bd y) (jd so nu td pa kk bd z) b A (jin b A J))
  | _, _, J => (J, .null)
/-- a kind asked for -/
def aK (s : SM) (a : Int) (A : Option Term) : Prop := match A with
  | none => a = -1
  | some t => vks s a ∧ kts s a = t
/-- what the rows hold of nodes that were judged -/
def JR (s : SM) (J : JT) (S : Int → Prop) : Prop := ∀ x, S x → (vks s (s.2 19 x) ∧ kts s (s.2 19 x) = J.1 x) ∧ aK s (s.2 20 x) (J.2.1 x) ∧ (s.2 21 x = J.2.2 x ∧ 0 ≤ J.2.2 x ∧ J.2.2 x ≤ 6)
abbrev bds (s : SM) (b x : Int) : Int := bnd (s.2 9) (s.2 10) (s.2 12) (s.2 13) 70 b x
abbrev ATj (s : SM) (t : Term) : Prop := AT (s.2 9) (s.2 14) (s.2 12) (s.2 13) 3004 t
/-- kinds that were told, as trees -/
def kks (s : SM) (k : Int) : Term := if 0 ≤ k ∧ k < s.1 2 then kts s k else .null
def jds (s : SM) (t : Term) (A : Option Term) (J : JT) : JT × Term := jd (s.2 9) (s.2 10) (s.2 11) (s.2 14) (kks s) (bds s) t A J
/-- what binds a letter there: none, a DEF with its kind, a LET whose first part was judged -/
def BOK (s : SM) (S : Int → Prop) (u : Int) : Prop := u = -9 ∨ ((0 ≤ u ∧ u < 3004) ∧ ((s.2 9 u = 8 ∧ 0 ≤ s.2 11 u ∧ s.2 11 u < s.1 2) ∨ (s.2 9 u = 10 ∧ S (s.2 14 (3 * u)) ∧ 0 ≤ s.2 14 (3 * u) ∧ s.2 14 (3 * u) < 3004)))
/-- what a judging leans on: the tree -/
def PRT (s : SM) (t : Term) : Prop := ATj s t ∧ full (s.2 9) t ∧ (fl t).Nodup ∧ (∀ x, x ∈ fl t → s.2 9 x = 8 ∨ s.2 9 x = 15 → 0 ≤ s.2 11 x ∧ s.2 11 x < s.1 2) ∧ ∀ x, x ∈ fl t → DP (s.2 12) 70 x
/-- .. and what was judged -/
def PRJ (s : SM) (b : Int) (l : List Int) (J : JT) (S : Int → Prop) : Prop := KJs s ∧ (∀ x, BOK s S (bds s b x)) ∧ JR s J S ∧ ∀ x, S x → x ∉ l
/-- what a judging does to the rows -/
def JX (s t : SM) (l : List Int) : Prop := eqx [3] [4, 5, 6, 7, 19, 20, 21] s t ∧ KJs t ∧ kext s t ∧ ∀ x, x ∉ l → t.2 19 x = s.2 19 x ∧ t.2 20 x = s.2 20 x ∧ t.2 21 x = s.2 21 x
def POST (s : SM) (t : Term) (A : Option Term) (J : JT) (S : Int → Prop) (r : Int) (w : SM) : Prop :=
  JX s w (fl t) ∧ w.1 3 ≤ s.1 3 + 41 * (fl t).length ∧ (vks w r ∧ kts w r = (jds s t A J).2) ∧ JR w (jds s t A J).1 (fun x => S x ∨ x ∈ fl t)
def JSP (iv : List (Int × Int)) (L : Nat) (h0 : MH) (n : Nat) : Prop := ∀ (t : Term) (s : SM) (a : Int) (A : Option Term) (J : JT) (S : Int → Prop), dpt t ≤ n → PRT s t → PRJ s (hd t) (fl t) J S → aK s a A → s.1 3 + 41 * (fl t).length ≤ 6000 → cm iv L h0 (3 * n + 45) 88 [vr 307, vi (hd t), vi a] s (qi (POST s t A J S))
theorem JX.rf {s : SM} {l : List Int} (h : KJs s) : JX s s l := ⟨eqx.rf, h, kext.rf, fun _ _ => ⟨rfl, rfl, rfl⟩⟩
theorem JX.tr {s t w : SM} {l : List Int} (h1 : JX s t l) (h2 : JX t w l) : JX s w l := ⟨h1.1.tr h2.1, h2.2.1, h1.2.2.1.tr h2.2.2.1, fun x hx => by
  obtain ⟨a1, a2, a3⟩ := h1.2.2.2 x hx
  obtain ⟨b1, b2, b3⟩ := h2.2.2.2 x hx
  exact ⟨b1.trans a1, b2.trans a2, b3.trans a3⟩⟩
theorem JX.up {s t : SM} {l m : List Int} (h : JX s t l) (hm : ∀ x, x ∈ l → x ∈ m) : JX s t m := ⟨h.1, h.2.1, h.2.2.1, fun x hx => h.2.2.2 x (fun q => hx (hm x q))⟩
/-- kinds only grew, nothing of nodes is written -/
theorem JX.kx {s t : SM} {l : List Int} (h : eqx [3] [4, 5, 6, 7] s t) (h1 : KJs t) (h2 : kext s t) : JX s t l := ⟨h.up (fun _ q => q) (fun f q => by simp at q ⊢; omega), h1, h2, fun x _ => by rw [h.2 19 (by decide), h.2 20 (by decide), h.2 21 (by decide)]; exact ⟨rfl, rfl, rfl⟩⟩
theorem kks_x {s t : SM} (h : kext s t) (hs : KJs s) : kks t = kks s := by
  funext k
  unfold kks
  rw [h.1]
  by_cases hk : 0 ≤ k ∧ k < t.1 2
  · rw [if_pos hk, if_pos hk]
    exact kext_kt h hs (Or.inl ⟨hk.1, by rw [h.1]; exact hk.2⟩)
  · rw [if_neg hk, if_neg hk]
theorem bds_x {s t : SM} {l : List Int} (h : JX s t l) : bds t = bds s := by
  funext b x
  show bnd _ _ _ _ 70 b x = bnd _ _ _ _ 70 b x
  rw [h.1.2 9 (by decide), h.1.2 10 (by decide), h.1.2 12 (by decide), h.1.2 13 (by decide)]
theorem jds_x {s t : SM} {l : List Int} (h : JX s t l) (hs : KJs s) : jds t = jds s := by
  funext u A J
  unfold jds
  rw [kks_x h.2.2.1 hs, bds_x h, h.1.2 9 (by decide), h.1.2 10 (by decide), h.1.2 11 (by decide), h.1.2 14 (by decide)]
theorem PRT_x {s t : SM} {l : List Int} {u : Term} (h : JX s t l) (hp : PRT s u) : PRT t u := by
  unfold PRT at hp ⊢
  rw [h.1.2 9 (by decide), h.1.2 11 (by decide), h.1.2 12 (by decide), ← h.2.2.1.1]
  unfold ATj at hp ⊢
  rw [h.1.2 9 (by decide), h.1.2 12 (by decide), h.1.2 13 (by decide), h.1.2 14 (by decide)]
  exact hp
theorem aK_x {s t : SM} {a : Int} {A : Option Term} (h : kext s t) (hs : KJs s) (ha : aK s a A) : aK t a A := by
  cases A with
  | none => exact ha
  | some T => exact ⟨kext_vk h ha.1, (kext_kt h hs ha.1).trans ha.2⟩
theorem JR_x {s t : SM} {l : List Int} {J : JT} {S : Int → Prop} (h : JX s t l) (hs : KJs s) (hj : JR s J S) (hS : ∀ x, S x → x ∉ l) : JR t J S := fun x hx => by
  obtain ⟨⟨a1, a2⟩, a3, a4⟩ := hj x hx
  obtain ⟨e1, e2, e3⟩ := h.2.2.2 x (hS x hx)
  rw [e1, e2, e3]
  exact ⟨⟨kext_vk h.2.2.1 a1, (kext_kt h.2.2.1 hs a1).trans a2⟩, aK_x h.2.2.1 hs a3, a4⟩
theorem JR_mono {s : SM} {J : JT} {S S' : Int → Prop} (h : JR s J S) (hS : ∀ x, S' x → S x) : JR s J S' := fun x hx => h x (hS x hx)
theorem BOK_x {s t : SM} {l : List Int} {S : Int → Prop} {u : Int} (h : JX s t l) (hb : BOK s S u) : BOK t S u := by
  unfold BOK at hb ⊢
  rw [h.1.2 9 (by decide), h.1.2 11 (by decide), h.1.2 14 (by decide), ← h.2.2.1.1]
  exact hb
theorem BOK_mono {s : SM} {S S' : Int → Prop} {u : Int} (hb : BOK s S u) (h : ∀ x, S x → S' x) : BOK s S' u := by
  rcases hb with hb | ⟨h1, hb | ⟨h2, h3, h4⟩⟩
  · exact Or.inl hb
  · exact Or.inr ⟨h1, Or.inl hb⟩
  · exact Or.inr ⟨h1, Or.inr ⟨h2, h _ h3, h4⟩⟩
theorem kks_told {s : SM} {k : Int} (h : 0 ≤ k ∧ k < s.1 2) : kks s k = kts s k := if_pos h
/-- a part of a node: what its judging leans on -/
theorem kid_T {s : SM} {t y : Term} (h : ATj s (.add t y)) (hd1 : (fl (.add t y)).Nodup) (ht : ∀ x, x ∈ fl (.add t y) → s.2 9 x = 8 ∨ s.2 9 x = 15 → 0 ≤ s.2 11 x ∧ s.2 11 x < s.1 2) (hD : ∀ x, x ∈ fl (.add t y) → DP (s.2 12) 70 x) : PRT s y := by
  obtain ⟨h1, h2, h3, h4, h5, h6, h7⟩ := h
  obtain ⟨d1, d2, d3⟩ := List.nodup_append.mp hd1
  exact ⟨h2, h3, d2, fun x hx => ht x (List.mem_append_right _ hx), fun x hx => hD x (List.mem_append_right _ hx)⟩
theorem kid_B {s : SM} {t y : Term} {S S' : Int → Prop} (h : ATj s (.add t y)) (ht : s.2 9 (hd t) = 8 → 0 ≤ s.2 11 (hd t) ∧ s.2 11 (hd t) < s.1 2) (hD : DP (s.2 12) 69 (hd t)) (hb : ∀ x, BOK s S (bds s (hd t) x)) (hS : ∀ x, S x → S' x)
    (hL : s.2 9 (hd t) = 10 → na t = 1 → S' (s.2 14 (3 * hd t)) ∧ 0 ≤ s.2 14 (3 * hd t) ∧ s.2 14 (3 * hd t) < 3004) : ∀ x, BOK s S' (bds s (hd y) x) := by
  intro x
  obtain ⟨h1, h2, h3, h4, h5, h6, h7⟩ := h
  have m := (AT_mem t h1 _ (hd_mem t h1)).1
  have e : bds s (hd y) x = if (s.2 9 (hd t) = 8 ∨ (s.2 9 (hd t) = 10 ∧ na t = 1)) ∧ s.2 10 (hd t) = x then hd t else bds s (hd t) x := by
    show bnd (s.2 9) (s.2 10) (s.2 12) (s.2 13) (69 + 1) (hd y) x = _
    unfold bnd
    rw [h6, h7, if_neg (by omega)]
    by_cases q : (s.2 9 (hd t) = 8 ∨ (s.2 9 (hd t) = 10 ∧ na t = 1)) ∧ s.2 10 (hd t) = x
    · rw [if_pos q, if_pos q]
    · rw [if_neg q, if_neg q]
      exact (bnd_f 69 70 (hd t) x (by decide) hD).symm
  rw [e]
  by_cases q : (s.2 9 (hd t) = 8 ∨ (s.2 9 (hd t) = 10 ∧ na t = 1)) ∧ s.2 10 (hd t) = x
  · rw [if_pos q]
    refine Or.inr ⟨m, ?_⟩
    rcases q.1 with q1 | q1
    · exact Or.inl ⟨q1, ht q1⟩
    · exact Or.inr ⟨q1.1, hL q1.1 q1.2⟩
  · rw [if_neg q]
    exact BOK_mono (hb x) hS
section
variable {iv : List (Int × Int)} {L : Nat} {h0 : MH}
theorem seenAs_ok {s : SM} {d : Nat} {b : Int} {F : Int → SM → Prop} (hb : 0 ≤ b ∧ b < 3004) (h : F (if 0 < s.2 21 b then 0 else s.2 19 b) s) : cm iv L h0 d 87 [vr 307, vi b] s (qi F) := by
  refine B87 ⟨hb, fun e => ?_, fun e => ?_⟩
  · rw [if_neg (by omega)] at h
    exact h
  · rw [if_pos e] at h
    exact h
/-- make() as a spec: what it comes to, the node's own kind left out -/
def MPOST (s : SM) (t : Term) (A : Option Term) (M : JT × Term) (S : Int → Prop) (r : Int) (w : SM) : Prop :=
  JX s w (fl t) ∧ w.1 3 ≤ s.1 3 + 41 * (fl t).length ∧ (vks w r ∧ kts w r = M.2) ∧ JR w M.1 (fun x => S x ∨ (x ∈ fl t ∧ x ≠ hd t)) ∧ (aK w (w.2 20 (hd t)) A ∧ M.1.2.1 (hd t) = A) ∧ (w.2 21 (hd t) = M.1.2.2 (hd t) ∧ 0 ≤ M.1.2.2 (hd t) ∧ M.1.2.2 (hd t) ≤ 6)
theorem judge_of_make {s : SM} {t : Term} {a : Int} {A : Option Term} {J : JT} {S : Int → Prop} {n : Nat} {M : JT × Term} (hT : PRT s t) (hP : PRJ s (hd t) (fl t) J S) (ha : aK s a A) (hM : jds s t A J = jen (s.2 9 (hd t)) (hd t) A M) (hbd : s.1 3 + 41 * (fl t).length ≤ 6000)
    (hmk : cm iv L h0 (n + 44) 89 [vr 307, vi (hd t), vi a] (ua (ua s 20 (hd t) a) 21 (hd t) 0) (qi (MPOST s t A M S))) : cm iv L h0 (n + 45) 88 [vr 307, vi (hd t), vi a] s (qi (POST s t A J S)) := by
  obtain ⟨hA, hf, hnd, htd, hDP⟩ := hT
  have hb := (AT_mem t hA _ (hd_mem t hA)).1
  have hbm := hd_mem t hA
  obtain ⟨hKJ, hBO, hJR, hSl⟩ := hP
  refine B88 ⟨hb, wci_mono hmk (Nat.le_refl _) ?_⟩
  rintro r w ⟨hX, hk, ⟨hv, hkt⟩, hR, ⟨hak, haA⟩, hr1, hr2, hr3⟩
  have hKw := hX.2.1
  have ha2 := aK_x hX.2.2.1 hKJ ha
  -- the rows behind 'made'
  have fin : ∀ (z : Int), (z = 0 ∨ z = 6) → (z = 6 → w.2 21 (hd t) = 0) → jcl (s.2 9 (hd t)) (hd t) A M.2 (jmd (hd t) M.2 M.1) = (if z = 6 then jsr (jmd (hd t) M.2 M.1) (hd t) 6 else jmd (hd t) M.2 M.1) →
      cm iv L h0 (n + 44) 87 [vr 307, vi (hd t)] (if z = 6 then ua (ua w 19 (hd t) r) 21 (hd t) 6 else ua w 19 (hd t) r) (qi (POST s t A J S)) := by
    intro z hz hz6 hcl
    generalize hv2 : (if z = 6 then ua (ua w 19 (hd t) r) 21 (hd t) 6 else ua w 19 (hd t) r) = v
    have v19 : ∀ x, v.2 19 x = if x = hd t then r else w.2 19 x := fun x => by
      rw [← hv2]
      rcases hz with rfl | rfl
      · simp [ua_2]
      · simp [ua_2]
    have v20 : ∀ x, v.2 20 x = w.2 20 x := fun x => by
      rw [← hv2]
      rcases hz with rfl | rfl
      · simp [ua_2]
      · simp [ua_2]
    have v21 : ∀ x, v.2 21 x = if x = hd t ∧ z = 6 then 6 else w.2 21 x := fun x => by
      rw [← hv2]
      rcases hz with rfl | rfl
      · simp [ua_2]
      · simp [ua_2]
    have ve : eqx [] [19, 21] w v := by
      rw [← hv2]
      rcases hz with rfl | rfl
      · rw [if_neg (by decide)]; exact eqx_ua eqx.rf (by decide)
      · rw [if_pos rfl]; exact eqx_ua (eqx_ua eqx.rf (by decide)) (by decide)
    have vK : KJs v := by
      unfold KJs at hKw ⊢
      rw [ve.1 2 (by decide), ve.1 3 (by decide), ve.2 4 (by decide), ve.2 5 (by decide), ve.2 6 (by decide), ve.2 7 (by decide)]
      exact hKw
    have vx : kext w v := ⟨(ve.1 2 (by decide)).symm, by rw [ve.1 3 (by decide)]; exact Int.le_refl _, fun k _ => by rw [ve.2 4 (by decide), ve.2 5 (by decide), ve.2 6 (by decide), ve.2 7 (by decide)]; exact ⟨rfl, rfl, rfl, rfl⟩⟩
    have vX : JX s v (fl t) := hX.tr ⟨ve.up (fun y q => by cases q) (fun f q => by simp at q ⊢; omega), vK, vx, fun x hx => by
      have hxt : x ≠ hd t := fun e => hx (by rw [e]; exact hbm)
      rw [v19, v20, v21, if_neg hxt, if_neg (fun q => hxt q.1)]
      exact ⟨rfl, rfl, rfl⟩⟩
    have e21 : v.2 21 (hd t) = (jcl (s.2 9 (hd t)) (hd t) A M.2 (jmd (hd t) M.2 M.1)).2.2 (hd t) := by
      rw [v21, hcl]
      rcases hz with rfl | rfl
      · rw [if_neg (fun q => absurd q.2 (by decide)), if_neg (by decide)]; exact hr1
      · rw [if_pos ⟨rfl, rfl⟩, if_pos rfl]
        show (6 : Int) = if hd t = hd t then 6 else _
        rw [if_pos rfl]
    have eo : ∀ x, x ≠ hd t → (jcl (s.2 9 (hd t)) (hd t) A M.2 (jmd (hd t) M.2 M.1)).1 x = M.1.1 x ∧ (jcl (s.2 9 (hd t)) (hd t) A M.2 (jmd (hd t) M.2 M.1)).2.1 x = M.1.2.1 x ∧ (jcl (s.2 9 (hd t)) (hd t) A M.2 (jmd (hd t) M.2 M.1)).2.2 x = M.1.2.2 x := fun x hx => by
      rw [hcl]
      rcases hz with rfl | rfl
      · rw [if_neg (by decide)]
        exact ⟨if_neg hx, rfl, rfl⟩
      · rw [if_pos rfl]
        exact ⟨if_neg hx, rfl, if_neg hx⟩
    have ebm : (jcl (s.2 9 (hd t)) (hd t) A M.2 (jmd (hd t) M.2 M.1)).1 (hd t) = M.2 ∧ (jcl (s.2 9 (hd t)) (hd t) A M.2 (jmd (hd t) M.2 M.1)).2.1 (hd t) = M.1.2.1 (hd t) := by
      rw [hcl]
      rcases hz with rfl | rfl
      · rw [if_neg (by decide)]
        exact ⟨if_pos rfl, rfl⟩
      · rw [if_pos rfl]
        exact ⟨if_pos rfl, rfl⟩
    have r6 : 0 ≤ (jcl (s.2 9 (hd t)) (hd t) A M.2 (jmd (hd t) M.2 M.1)).2.2 (hd t) ∧ (jcl (s.2 9 (hd t)) (hd t) A M.2 (jmd (hd t) M.2 M.1)).2.2 (hd t) ≤ 6 := by
      rw [← e21, v21]
      split
      · omega
      · omega
    have n0 : kts v 0 = .null := (kt_leaf vK).1 (vK.1.2.1 0 (by omega) (by omega)).1
    have hv2' := kext_vk vx hv
    have hkt2 := kext_kt vx hKw hv
    refine seenAs_ok hb ⟨vX, by rw [ve.1 3 (by decide)]; exact hk, ?_, ?_⟩
    · rw [hM]
      show vks v (if 0 < v.2 21 (hd t) then 0 else v.2 19 (hd t)) ∧ kts v (if 0 < v.2 21 (hd t) then 0 else v.2 19 (hd t)) = jsee (jcl (s.2 9 (hd t)) (hd t) A M.2 (jmd (hd t) M.2 M.1)) (hd t)
      unfold jsee
      rw [← e21, ebm.1]
      by_cases hp : 0 < v.2 21 (hd t)
      · rw [if_pos hp, if_pos hp]
        exact ⟨Or.inl ⟨by omega, by have := vK.1.1; omega⟩, n0⟩
      · rw [if_neg hp, if_neg hp, v19, if_pos rfl]
        exact ⟨hv2', hkt2.trans hkt⟩
    · rw [hM]
      show JR v (jcl (s.2 9 (hd t)) (hd t) A M.2 (jmd (hd t) M.2 M.1)) (fun x => S x ∨ x ∈ fl t)
      intro x hx
      by_cases e : x = hd t
      · subst e
        rw [ebm.1, ebm.2, ← e21, v19, if_pos rfl, v20]
        exact ⟨⟨hv2', hkt2.trans hkt⟩, by rw [haA]; exact aK_x vx hKw hak, rfl, by rw [e21]; exact r6⟩
      · obtain ⟨o1, o2, o3⟩ := eo x e
        obtain ⟨⟨a1, a2⟩, a3, a4⟩ := hR x (hx.imp id (fun q => ⟨q, e⟩))
        rw [o1, o2, o3, v19, if_neg e, v20, v21, if_neg (fun q => e q.1)]
        exact ⟨⟨kext_vk vx a1, (kext_kt vx hKw a1).trans a2⟩, aK_x vx hKw a3, a4⟩
  have noc : jcl (s.2 9 (hd t)) (hd t) A M.2 (jmd (hd t) M.2 M.1) = jmd (hd t) M.2 M.1 → cm iv L h0 (n + 44) 87 [vr 307, vi (hd t)] (ua w 19 (hd t) r) (qi (POST s t A J S)) := fun h => by
    have := fin 0 (Or.inl rfl) (fun q => absurd q (by decide)) (by rw [if_neg (by decide)]; exact h)
    rwa [if_neg (by decide)] at this
  have hw9 : w.2 9 = s.2 9 := hX.1.2 9 (by decide)
  refine ⟨fun e => noc ?_, fun e => ⟨fun e2 => noc ?_, fun e2 => ⟨fun e3 => noc ?_, fun e3 => ⟨fun e4 => noc ?_, fun e4 => ?_⟩⟩⟩⟩
  · cases A with
    | none => rfl
    | some T =>
      exfalso
      have := ha.1.lt hKJ.1.1.2 hKJ.2.1
      omega
  · cases A with
    | none => rfl
    | some T =>
      exact jcl_z (fun q => e2 (by rw [hr1]; exact q.1))
  · cases A with
    | none => rfl
    | some T =>
      exact jcl_z (fun q => q.2.1 (by rw [← hw9]; exact e3))
  · cases A with
    | none => rfl
    | some T =>
      exact jcl_z (fun q => q.2.2.1 (by rw [← hw9]; exact e4))
  · cases A with
    | none => exact absurd ha e
    | some T =>
      obtain ⟨ha3, ha4⟩ := ha2
      have v19 : (ua w 19 (hd t) r).2 19 (hd t) = r := by show (if 19 = 19 ∧ hd t = hd t then r else _) = r; rw [if_pos ⟨rfl, rfl⟩]
      have hz1 := (hKw.at ha3).1
      rw [v19]
      have hK2 : KJs (ua w 19 (hd t) r) := hKw
      refine wci_mono (areMeeting_ok hK2 (by show w.1 3 ≤ 6000; omega) 40 a r hz1.2 ha3 hv) (by omega) ?_
      rintro q u ⟨rfl, rfl⟩
      have e5 : kmt (kts (ua w 19 (hd t) r) a) (kts (ua w 19 (hd t) r) r) = kmt T M.2 := by
        show kmt (kts w a) (kts w r) = _
        rw [ha4, hkt]
      rw [e5]
      cases hm : kmt T M.2 with
      | true =>
        refine ⟨fun _ => noc ?_, fun h => absurd h (by decide)⟩
        exact jcl_z (fun q => by rw [hm] at q; exact absurd q.2.2.2 (by decide))
      | false =>
        refine ⟨fun h => absurd rfl h, fun _ => ?_⟩
        have := fin 6 (Or.inr rfl) (fun _ => e2) (by
          rw [if_pos rfl]
          exact jcl_y ⟨hr1.symm.trans e2, by rw [← hw9]; exact e3, by rw [← hw9]; exact e4, hm⟩)
        rwa [if_pos rfl] at this
end
