/-! Judging by the desk: from making to judging. Printed by wip/gen2/mkjd.py, mkjd2.py out of 73 to 74d, then changed by hand. -/
def POSTd (s : SM) (t : Term) (A : Option Term) (J : JT) (S : Int → Prop) (r : Int) (w : SM) : Prop :=
  JX s w (fl t) ∧ w.1 3 ≤ s.1 3 + 20 * (fl t).length ∧ (vks w r ∧ kts w r = (jds s t A J).2) ∧ JR w (jds s t A J).1 (fun x => S x ∨ x ∈ fl t)
def HTd (Tn : Int → Prop) (ρ : Int → Option Int) (t : Term) (S : Int → Prop) : Prop := (∀ x, x ∈ fl t → Tn x) ∧ ∀ x, ρ x ≠ none → x ∉ fl t ∧ ¬ S x
def JSPd (iv : List (Int × Int)) (L : Nat) (h0 : MH) (Ad : Int → Nat) (Tn : Int → Prop) (n : Nat) : Prop := ∀ (ρ : Int → Option Int) (t : Term) (s : SM) (a : Int) (A : Option Term) (J : JT) (S : Int → Prop), dpt t ≤ n → PRT s t → PRJ s (hd t) (fl t) J S → aK s a A → s.1 3 + 20 * (fl t).length ≤ 1440 → HTd Tn ρ t S → cj iv L h0 Ad Tn ρ n (3 * n + 45) 88 [vr 307, vi (hd t), vi a] s (qi (POSTd s t A J S))
theorem cjm {iv : List (Int × Int)} {L : Nat} {h0 : MH} {Ad : Int → Nat} {Tn : Int → Prop} {ρ : Int → Option Int} {k d d' M : Nat} {s : SM} {as : List VV} {F F' : Int → SM → Prop} (h : cj iv L h0 Ad Tn ρ k d M as s (qi F)) (hd : d ≤ d') (hq : ∀ z s', F z s' → F' z s') : cj iv L h0 Ad Tn ρ k d' M as s (qi F') := cji_mono h hd (Nat.le_refl _) hq
theorem seenAs_okd {iv : List (Int × Int)} {L : Nat} {h0 : MH} {Ad : Int → Nat} {Tn : Int → Prop} {ρ : Int → Option Int} {k d : Nat} {s : SM} {b : Int} {F : Int → SM → Prop} (hT : Tn b) (hρ : ρ b = none) (hr : 0 ≤ s.2 21 b) (h : F (if 0 < s.2 21 b then 0 else s.2 19 b) s) : cj iv L h0 Ad Tn ρ k d 87 [vr 307, vi b] s (qi F) := by
  refine D87 hT hρ ⟨fun q => ?_, fun q => ?_⟩
  · rw [if_pos (by omega)] at h; exact h
  · rw [if_neg (by omega)] at h; exact h
section
variable {iv : List (Int × Int)} {L : Nat} {h0 : MH} {Ad : Int → Nat} {Tn : Int → Prop} {ρ : Int → Option Int} {k : Nat}
/-- make() as a spec: what it comes to, the node's own kind left out -/
def MPOSTd (s : SM) (t : Term) (A : Option Term) (M : JT × Term) (S : Int → Prop) (r : Int) (w : SM) : Prop :=
  JX s w (fl t) ∧ w.1 3 ≤ s.1 3 + 20 * (fl t).length ∧ (vks w r ∧ kts w r = M.2) ∧ JR w M.1 (fun x => S x ∨ (x ∈ fl t ∧ x ≠ hd t)) ∧ (aK w (w.2 20 (hd t)) A ∧ M.1.2.1 (hd t) = A) ∧ (w.2 21 (hd t) = M.1.2.2 (hd t) ∧ 0 ≤ M.1.2.2 (hd t) ∧ M.1.2.2 (hd t) ≤ 6)
theorem judge_of_maked {s : SM} {t : Term} {a : Int} {A : Option Term} {J : JT} {S : Int → Prop} {n : Nat} {M : JT × Term} (hT : PRT s t) (hP : PRJ s (hd t) (fl t) J S) (ha : aK s a A) (hM : jds s t A J = jen (s.2 9 (hd t)) (hd t) A M) (hbd : s.1 3 + 20 * (fl t).length ≤ 1440) (hTb : Tn (hd t)) (hρb : ρ (hd t) = none)
    (hmk : cj iv L h0 Ad Tn ρ k (n + 44) 89 [vr 307, vi (hd t), vi a] (ua (ua s 20 (hd t) a) 21 (hd t) 0) (qi (MPOSTd s t A M S))) : cj iv L h0 Ad Tn ρ (k + 1) (n + 45) 88 [vr 307, vi (hd t), vi a] s (qi (POSTd s t A J S)) := by
  obtain ⟨hA, hf, hnd, htd, hDP⟩ := hT
  have hb := (AT_mem t hA _ (hd_mem t hA)).1
  have hbm := hd_mem t hA
  obtain ⟨hKJ, hBO, hJR, hSl⟩ := hP
  refine D88 hTb hρb (cjm hmk (Nat.le_refl _) ?_)
  rintro r w ⟨hX, hk, ⟨hv, hkt⟩, hR, ⟨hak, haA⟩, hr1, hr2, hr3⟩
  have hKw := hX.2.1
  have ha2 := aK_x hX.2.2.1 hKJ ha
  -- the rows behind 'made'
  have fin : ∀ (z : Int), (z = 0 ∨ z = 6) → (z = 6 → w.2 21 (hd t) = 0) → jcl (s.2 9 (hd t)) (hd t) A M.2 (jmd (hd t) M.2 M.1) = (if z = 6 then jsr (jmd (hd t) M.2 M.1) (hd t) 6 else jmd (hd t) M.2 M.1) →
      cj iv L h0 Ad Tn ρ k (n + 44) 87 [vr 307, vi (hd t)] (if z = 6 then ua (ua w 19 (hd t) r) 21 (hd t) 6 else ua w 19 (hd t) r) (qi (POSTd s t A J S)) := by
    intro z hz hz6 hcl
    generalize hv2 : (if z = 6 then ua (ua w 19 (hd t) r) 21 (hd t) 6 else ua w 19 (hd t) r) = v
    have v19 : ∀ x, v.2 19 x = if x = hd t then r else w.2 19 x := fun x => by
      rw [← hv2]
      rcases hz with rfl | rfl
      · simp [ua_2]
      · simp [ua_2]
    have v20 : ∀ x, v.2 20 x = w.2 20 x := fun x => by
      rw [← hv2]
      rcases hz with rfl | rfl
      · simp [ua_2]
      · simp [ua_2]
    have v21 : ∀ x, v.2 21 x = if x = hd t ∧ z = 6 then 6 else w.2 21 x := fun x => by
      rw [← hv2]
      rcases hz with rfl | rfl
      · simp [ua_2]
      · simp [ua_2]
    have ve : eqx [] [19, 21] w v := by
      rw [← hv2]
      rcases hz with rfl | rfl
      · rw [if_neg (by decide)]; exact eqx_ua eqx.rf (by decide)
      · rw [if_pos rfl]; exact eqx_ua (eqx_ua eqx.rf (by decide)) (by decide)
    have vK : KJs v := by
      unfold KJs at hKw ⊢
      rw [ve.1 2 (by decide), ve.1 3 (by decide), ve.2 4 (by decide), ve.2 5 (by decide), ve.2 6 (by decide), ve.2 7 (by decide)]
      exact hKw
    have vx : kext w v := ⟨(ve.1 2 (by decide)).symm, by rw [ve.1 3 (by decide)]; exact Int.le_refl _, fun k _ => by rw [ve.2 4 (by decide), ve.2 5 (by decide), ve.2 6 (by decide), ve.2 7 (by decide)]; exact ⟨rfl, rfl, rfl, rfl⟩⟩
    have vX : JX s v (fl t) := hX.tr ⟨ve.up (fun y q => by cases q) (fun f q => by simp at q ⊢; omega), vK, vx, fun x hx => by
      have hxt : x ≠ hd t := fun e => hx (by rw [e]; exact hbm)
      rw [v19, v20, v21, if_neg hxt, if_neg (fun q => hxt q.1)]
      exact ⟨rfl, rfl, rfl⟩⟩
    have e21 : v.2 21 (hd t) = (jcl (s.2 9 (hd t)) (hd t) A M.2 (jmd (hd t) M.2 M.1)).2.2 (hd t) := by
      rw [v21, hcl]
      rcases hz with rfl | rfl
      · rw [if_neg (fun q => absurd q.2 (by decide)), if_neg (by decide)]; exact hr1
      · rw [if_pos ⟨rfl, rfl⟩, if_pos rfl]
        show (6 : Int) = if hd t = hd t then 6 else _
        rw [if_pos rfl]
    have eo : ∀ x, x ≠ hd t → (jcl (s.2 9 (hd t)) (hd t) A M.2 (jmd (hd t) M.2 M.1)).1 x = M.1.1 x ∧ (jcl (s.2 9 (hd t)) (hd t) A M.2 (jmd (hd t) M.2 M.1)).2.1 x = M.1.2.1 x ∧ (jcl (s.2 9 (hd t)) (hd t) A M.2 (jmd (hd t) M.2 M.1)).2.2 x = M.1.2.2 x := fun x hx => by
      rw [hcl]
      rcases hz with rfl | rfl
      · rw [if_neg (by decide)]
        exact ⟨if_neg hx, rfl, rfl⟩
      · rw [if_pos rfl]
        exact ⟨if_neg hx, rfl, if_neg hx⟩
    have ebm : (jcl (s.2 9 (hd t)) (hd t) A M.2 (jmd (hd t) M.2 M.1)).1 (hd t) = M.2 ∧ (jcl (s.2 9 (hd t)) (hd t) A M.2 (jmd (hd t) M.2 M.1)).2.1 (hd t) = M.1.2.1 (hd t) := by
      rw [hcl]
      rcases hz with rfl | rfl
      · rw [if_neg (by decide)]
        exact ⟨if_pos rfl, rfl⟩
      · rw [if_pos rfl]
        exact ⟨if_pos rfl, rfl⟩
    have r6 : 0 ≤ (jcl (s.2 9 (hd t)) (hd t) A M.2 (jmd (hd t) M.2 M.1)).2.2 (hd t) ∧ (jcl (s.2 9 (hd t)) (hd t) A M.2 (jmd (hd t) M.2 M.1)).2.2 (hd t) ≤ 6 := by
      rw [← e21, v21]
      split
      · omega
      · omega
    have n0 : kts v 0 = .null := (kt_leaf vK).1 (vK.1.2.1 0 (by omega) (by omega)).1
    have hv2' := kext_vk vx hv
    have hkt2 := kext_kt vx hKw hv
    refine seenAs_okd hTb hρb (by rw [e21]; exact r6.1) ⟨vX, by rw [ve.1 3 (by decide)]; exact hk, ?_, ?_⟩
    · rw [hM]
      show vks v (if 0 < v.2 21 (hd t) then 0 else v.2 19 (hd t)) ∧ kts v (if 0 < v.2 21 (hd t) then 0 else v.2 19 (hd t)) = jsee (jcl (s.2 9 (hd t)) (hd t) A M.2 (jmd (hd t) M.2 M.1)) (hd t)
      unfold jsee
      rw [← e21, ebm.1]
      by_cases hp : 0 < v.2 21 (hd t)
      · rw [if_pos hp, if_pos hp]
        exact ⟨Or.inl ⟨by omega, by have := vK.1.1; omega⟩, n0⟩
      · rw [if_neg hp, if_neg hp, v19, if_pos rfl]
        exact ⟨hv2', hkt2.trans hkt⟩
    · rw [hM]
      show JR v (jcl (s.2 9 (hd t)) (hd t) A M.2 (jmd (hd t) M.2 M.1)) (fun x => S x ∨ x ∈ fl t)
      intro x hx
      by_cases e : x = hd t
      · subst e
        rw [ebm.1, ebm.2, ← e21, v19, if_pos rfl, v20]
        exact ⟨⟨hv2', hkt2.trans hkt⟩, by rw [haA]; exact aK_x vx hKw hak, rfl, by rw [e21]; exact r6⟩
      · obtain ⟨o1, o2, o3⟩ := eo x e
        obtain ⟨⟨a1, a2⟩, a3, a4⟩ := hR x (hx.imp id (fun q => ⟨q, e⟩))
        rw [o1, o2, o3, v19, if_neg e, v20, v21, if_neg (fun q => e q.1)]
        exact ⟨⟨kext_vk vx a1, (kext_kt vx hKw a1).trans a2⟩, aK_x vx hKw a3, a4⟩
  have noc : jcl (s.2 9 (hd t)) (hd t) A M.2 (jmd (hd t) M.2 M.1) = jmd (hd t) M.2 M.1 → cj iv L h0 Ad Tn ρ k (n + 44) 87 [vr 307, vi (hd t)] (ua w 19 (hd t) r) (qi (POSTd s t A J S)) := fun h => by
    have := fin 0 (Or.inl rfl) (fun q => absurd q (by decide)) (by rw [if_neg (by decide)]; exact h)
    rwa [if_neg (by decide)] at this
  have hw9 : w.2 9 = s.2 9 := hX.1.2 9 (by decide)
  refine ⟨fun e => noc ?_, fun e => ⟨fun e2 => noc ?_, fun e2 => ⟨fun e3 => noc ?_, fun e3 => ⟨fun e4 => noc ?_, fun e4 => ?_⟩⟩⟩⟩
  · cases A with
    | none => rfl
    | some T =>
      exfalso
      have := ha.1.lt hKJ.1.1.2 hKJ.2.1
      omega
  · cases A with
    | none => rfl
    | some T =>
      exact jcl_z (fun q => e2 (by rw [hr1]; exact q.1))
  · cases A with
    | none => rfl
    | some T =>
      exact jcl_z (fun q => q.2.1 (by rw [← hw9]; exact e3))
  · cases A with
    | none => rfl
    | some T =>
      exact jcl_z (fun q => q.2.2.1 (by rw [← hw9]; exact e4))
  · cases A with
    | none => exact absurd ha e
    | some T =>
      obtain ⟨ha3, ha4⟩ := ha2
      have v19 : (ua w 19 (hd t) r).2 19 (hd t) = r := by show (if 19 = 19 ∧ hd t = hd t then r else _) = r; rw [if_pos ⟨rfl, rfl⟩]
      have hz1 := (hKw.at ha3).1
      have hK2 : KJs (ua w 19 (hd t) r) := hKw
      refine cjm (areMeeting_okd hK2 (by show w.1 3 ≤ 1440; omega) ha3 hv) (by omega) ?_
      rintro q u ⟨rfl, rfl⟩
      have e5 : kmt (kts (ua w 19 (hd t) r) a) (kts (ua w 19 (hd t) r) r) = kmt T M.2 := by
        show kmt (kts w a) (kts w r) = _
        rw [ha4, hkt]
      rw [e5]
      cases hm : kmt T M.2 with
      | true =>
        refine ⟨fun _ => noc ?_, fun h => absurd h (by decide)⟩
        exact jcl_z (fun q => by rw [hm] at q; exact absurd q.2.2.2 (by decide))
      | false =>
        refine ⟨fun h => absurd rfl h, fun _ => ?_⟩
        have := fin 6 (Or.inr rfl) (fun _ => e2) (by
          rw [if_pos rfl]
          exact jcl_y ⟨hr1.symm.trans e2, by rw [← hw9]; exact e3, by rw [← hw9]; exact e4, hm⟩)
        rwa [if_pos rfl] at this
end
/-- a node, some of its parts judged -/
def SJd (s : SM) (t : Term) (a : Int) (A : Option Term) (S : Int → Prop) (dn : List Int) (J : JT) (w : SM) : Prop :=
  JX s w (fl t) ∧ JR w J (fun x => S x ∨ x ∈ dn) ∧ (w.2 20 (hd t) = a ∧ J.2.1 (hd t) = A) ∧ (w.2 21 (hd t) = 0 ∧ J.2.2 (hd t) = 0) ∧ w.1 3 ≤ s.1 3 + 20 * dn.length
theorem ST_0d {s : SM} {t : Term} {a : Int} {A : Option Term} {J : JT} {S : Int → Prop} (hT : PRT s t) (hP : PRJ s (hd t) (fl t) J S) : SJd s t a A S [] (jin (hd t) A J) (ua (ua s 20 (hd t) a) 21 (hd t) 0) := by
  obtain ⟨hA, hf, hnd, htd, hDP⟩ := hT
  obtain ⟨hKJ, hBO, hJR, hSl⟩ := hP
  have hbm := hd_mem t hA
  have hX : JX s (ua (ua s 20 (hd t) a) 21 (hd t) 0) (fl t) := ⟨eqx_ua (eqx_ua eqx.rf (by decide)) (by decide), hKJ, ⟨rfl, Int.le_refl _, fun _ _ => ⟨rfl, rfl, rfl, rfl⟩⟩, fun x hx => by
    have hxt : x ≠ hd t := fun e => hx (by rw [e]; exact hbm)
    simp [ua_2, hxt]⟩
  refine ⟨hX, fun x hx => ?_, ⟨by simp [ua_2], if_pos rfl⟩, ⟨by simp [ua_2], if_pos rfl⟩, by show s.1 3 ≤ _; simp⟩
  have hx : S x := hx.resolve_right (fun q => by cases q)
  have hxt : x ≠ hd t := fun e => hSl x hx (by rw [e]; exact hbm)
  obtain ⟨g1, g2, g3⟩ := AG_jin (J := J) (A := A) hxt
  rw [g1, g2, g3]
  exact JR_x hX hKJ hJR hSl x hx
section
variable {iv : List (Int × Int)} {L : Nat} {h0 : MH} {Ad : Int → Nat} {Tn : Int → Prop} {ρ : Int → Option Int} {k : Nat}
/-- one part more -/
theorem ST_1d {n : Nat} (hn : JSPd iv L h0 Ad Tn n) {s w : SM} {t u y : Term} {a a' : Int} {A A' : Option Term} {J J' : JT} {S : Int → Prop} {dn : List Int} {d : Nat} {F : Int → SM → Prop} (hT : PRT s t) (hP : PRJ s (hd t) (fl t) J S) (hst : SJd s t a A S dn J' w)
    (hA : ATj s (.add u y)) (hsub : ∃ r, fl t = fl (.add u y) ++ r) (hhd : hd u = hd t) (hdn : ∀ x, x ∈ dn → x ∈ fl u) (hL : s.2 9 (hd t) = 10 → na u = 1 → s.2 14 (3 * hd t) ∈ dn) (hdp : dpt y ≤ n) (hbd : s.1 3 + 20 * (dn.length + (fl y).length : Nat) ≤ 1440) (ha : aK w a' A') (hd1 : 3 * n + 45 ≤ d) (hTn : ∀ x, x ∈ fl y → Tn x) (hρn : ∀ x, ρ x ≠ none → x ∉ fl y ∧ ¬ (S x ∨ x ∈ dn))
    (hgo : ∀ r v, SJd s t a A S (dn ++ fl y) (jds s y A' J').1 v → kext w v → vks v r → kts v r = (jds s y A' J').2 → F r v) : cj iv L h0 Ad Tn ρ n d 88 [vr 307, vi (hd y), vi a'] w (qi F) := by
  obtain ⟨hX, hR, ⟨hk1, hk2⟩, ⟨hr1, hr2⟩, hb⟩ := hst
  obtain ⟨hTA, hf, hnd, htd, hDP⟩ := hT
  obtain ⟨hKJ, hBO, hJR, hSl⟩ := hP
  obtain ⟨r0, hr0⟩ := hsub
  have hndy : (fl (.add u y)).Nodup := by rw [hr0] at hnd; exact (List.nodup_append.mp hnd).1
  have hmem : ∀ x, x ∈ fl (.add u y) → x ∈ fl t := fun x hx => by rw [hr0]; exact List.mem_append_left _ hx
  have hym : ∀ x, x ∈ fl y → x ∈ fl t := fun x hx => hmem x (List.mem_append_right _ hx)
  obtain ⟨d1, d2, d3⟩ := List.nodup_append.mp hndy
  have huy : ∀ x, x ∈ fl u → x ∉ fl y := fun x hx q => d3 x hx x q rfl
  have hbu : hd t ∈ fl u := by rw [← hhd]; exact hd_mem u hA.1
  have hby : hd t ∉ fl y := huy _ hbu
  have hKw := hX.2.1
  have hPy : PRT s y := kid_T hA hndy (fun x hx => htd x (hmem x hx)) (fun x hx => hDP x (hmem x hx))
  have hBy : ∀ x, BOK w (fun x => S x ∨ x ∈ dn) (bds w (hd y) x) := fun x => by
    rw [bds_x hX]
    refine BOK_x hX (kid_B (S := S) (S' := fun x => S x ∨ x ∈ dn) hA (by rw [hhd]; exact fun e => htd _ (hmem _ (List.mem_append_left _ hbu)) (Or.inl e)) ?_ (by rw [hhd]; exact hBO) (fun x q => Or.inl q) ?_ x)
    · rw [hhd]
      have h70 := hDP (hd y) (hym _ (hd_mem y hA.2.1))
      obtain ⟨-, -, -, -, -, e6, -⟩ := hA
      have h71 : s.2 12 (hd y) = -9 ∨ ((0 ≤ s.2 12 (hd y) ∧ s.2 12 (hd y) < 3004) ∧ DP (s.2 12) 69 (s.2 12 (hd y))) := h70
      rw [e6, hhd] at h71
      rcases h71 with q | q
      · have := (AT_mem t hTA _ (hd_mem t hTA)).1
        omega
      · exact q.2
    · rw [hhd]
      intro e10 e1
      have hm := hL e10 e1
      have hm2 := (AT_mem t hTA _ (hmem _ (List.mem_append_left _ (hdn _ hm)))).1
      exact ⟨Or.inr hm, hm2⟩
  have hSy : ∀ x, (S x ∨ x ∈ dn) → x ∉ fl y := fun x hx => hx.elim (fun q w => hSl x q (hym x w)) (fun q => huy x (hdn x q))
  have spec := hn ρ y w a' A' J' (fun x => S x ∨ x ∈ dn) hdp (PRT_x hX hPy) ⟨hKw, hBy, hR, hSy⟩ ha (by push_cast at hbd; omega) ⟨hTn, hρn⟩
  refine cjm spec hd1 ?_
  rintro r v ⟨p1, p2, ⟨p3, p4⟩, p5⟩
  rw [jds_x hX hKJ] at p4 p5
  have out := jd_out (so := s.2 9) (nu := s.2 10) (td := s.2 11) (pa := s.2 14) (kk := kks s) (bd := bds s) (dpt y) y (Nat.le_refl _) hA.2.1 A' J' (hd t) hby
  obtain ⟨o1, o2, o3⟩ := p1.2.2.2 (hd t) hby
  refine hgo r v ⟨hX.tr (p1.up hym), JR_mono p5 (fun x hx => ?_), ⟨by rw [o2]; exact hk1, ?_⟩, ⟨by rw [o3]; exact hr1, ?_⟩, ?_⟩ p1.2.2.1 p3 p4
  · rcases hx with q | q
    · exact Or.inl (Or.inl q)
    · rcases List.mem_append.mp q with q | q
      · exact Or.inl (Or.inr q)
      · exact Or.inr q
  · exact out.2.1.trans hk2
  · exact out.2.2.trans hr2
  · rw [List.length_append]; push_cast; omega
end
/-- all parts judged: what the making comes to -/
theorem MP_0d {s w : SM} {t : Term} {a r : Int} {A : Option Term} {S : Int → Prop} {dn : List Int} {J : JT} {m : Term} (hst : SJd s t a A S dn J w) (hnd : (fl t).Nodup) (ha : aK s a A) (hKJ : KJs s) (hdn : ∀ x, x ∈ fl t → x ≠ hd t → x ∈ dn) (hlen : dn.length + 1 ≤ (fl t).length) {w' : SM} (hX : JX w w' []) (hb : w'.1 3 ≤ w.1 3 + 20) (hv : vks w' r) (hk : kts w' r = m) : MPOSTd s t A (J, m) S r w' := by
  obtain ⟨h1, h2, ⟨h3, h4⟩, ⟨h5, h6⟩, h7⟩ := hst
  obtain ⟨o1, o2, o3⟩ := hX.2.2.2 (hd t) (by simp)
  refine ⟨h1.tr (hX.up (fun x q => by cases q)), by omega, ⟨hv, hk⟩, JR_mono (JR_x hX h1.2.1 h2 (fun x _ q => by cases q)) (fun x hx => hx.imp id (fun q => hdn x q.1 q.2)), ⟨?_, h4⟩, ?_⟩
  · rw [o2, h3]
    exact aK_x hX.2.2.1 h1.2.1 (aK_x h1.2.2.1 hKJ ha)
  · show w'.2 21 (hd t) = J.2.2 (hd t) ∧ 0 ≤ J.2.2 (hd t) ∧ J.2.2 (hd t) ≤ 6
    rw [o3, h5, h6]
    omega
/-- .. with a reason of its own -/
theorem MP_rd {s w : SM} {t : Term} {a r z : Int} {A : Option Term} {S : Int → Prop} {dn : List Int} {J : JT} {m : Term} (hst : SJd s t a A S dn J w) (hnd : (fl t).Nodup) (ha : aK s a A) (hKJ : KJs s) (hSl : ∀ x, S x → x ∉ fl t) (hb0 : hd t ∈ fl t) (hbd : hd t ∉ dn) (hz : 0 ≤ z ∧ z ≤ 6) (hdn : ∀ x, x ∈ fl t → x ≠ hd t → x ∈ dn) (hlen : dn.length + 1 ≤ (fl t).length) {w' : SM} (hX : JX (ua w 21 (hd t) z) w' []) (hb : w'.1 3 ≤ w.1 3 + 20) (hv : vks w' r) (hk : kts w' r = m) : MPOSTd s t A (jsr J (hd t) z, m) S r w' := by
  obtain ⟨h1, h2, ⟨h3, h4⟩, ⟨h5, h6⟩, h7⟩ := hst
  have hX0 : JX w (ua w 21 (hd t) z) (fl t) := ⟨eqx_ua eqx.rf (by decide), h1.2.1, ⟨rfl, Int.le_refl _, fun _ _ => ⟨rfl, rfl, rfl, rfl⟩⟩, fun x hx => by
    have hxt : x ≠ hd t := fun e => hx (by rw [e]; exact hb0)
    simp [ua_2, hxt]⟩
  have hX2 : JX w w' (fl t) := hX0.tr (hX.up (fun x q => by cases q))
  obtain ⟨o1, o2, o3⟩ := hX.2.2.2 (hd t) (by simp)
  have e20 : (ua w 21 (hd t) z).2 20 (hd t) = w.2 20 (hd t) := by simp [ua_2]
  have e21 : (ua w 21 (hd t) z).2 21 (hd t) = z := by simp [ua_2]
  refine ⟨h1.tr hX2, by omega, ⟨hv, hk⟩, fun x hx => ?_, ⟨?_, h4⟩, ?_⟩
  · have hxb : x ≠ hd t := by
      rcases hx with q | q
      · exact fun e => hSl x q (by rw [e]; exact hb0)
      · exact q.2
    obtain ⟨⟨a1, a2⟩, a3, a4⟩ := h2 x (hx.imp id (fun q => hdn x q.1 q.2))
    obtain ⟨b1, b2, b3⟩ := hX.2.2.2 x (by simp)
    have c1 : (ua w 21 (hd t) z).2 19 x = w.2 19 x := by simp [ua_2]
    have c2 : (ua w 21 (hd t) z).2 20 x = w.2 20 x := by simp [ua_2]
    have c3 : (ua w 21 (hd t) z).2 21 x = w.2 21 x := by simp [ua_2, hxb]
    obtain ⟨g1, g2, g3⟩ := AG_jsr (J := J) (z := z) hxb
    rw [b1, b2, b3, c1, c2, c3, g1, g2, g3]
    exact ⟨⟨kext_vk hX2.2.2.1 a1, (kext_kt hX2.2.2.1 h1.2.1 a1).trans a2⟩, aK_x hX2.2.2.1 h1.2.1 a3, a4⟩
  · rw [o2, e20, h3]
    exact aK_x hX2.2.2.1 h1.2.1 (aK_x h1.2.2.1 hKJ ha)
  · show w'.2 21 (hd t) = (if hd t = hd t then z else _) ∧ 0 ≤ (if hd t = hd t then z else _) ∧ (if hd t = hd t then z else _) ≤ 6
    rw [if_pos rfl, o3, e21]
    exact ⟨rfl, hz⟩
/-- a part gets a reason, if it has none -/
theorem ST_nd {s w w' : SM} {t : Term} {a z p : Int} {A : Option Term} {S : Int → Prop} {dn : List Int} {J : JT} (hst : SJd s t a A S dn J w) (hp : p ∈ dn) (hpt : p ∈ fl t) (hpb : p ≠ hd t) (hz : 0 ≤ z ∧ z ≤ 6) (hw : (w.2 21 p = 0 ∧ w' = ua w 21 p z) ∨ (w.2 21 p ≠ 0 ∧ (w' = w ∨ w' = ua w 21 p (w.2 21 p)))) : SJd s t a A S dn (jsn J p z) w' ∧ kext w w' := by
  obtain ⟨h1, h2, ⟨h3, h4⟩, ⟨h5, h6⟩, h7⟩ := hst
  have hj := (h2 p (Or.inr hp)).2.2.1
  have v21 : ∀ x, w'.2 21 x = if x = p ∧ w.2 21 p = 0 then z else w.2 21 x := fun x => by
    rcases hw with ⟨e, rfl⟩ | ⟨e, rfl | rfl⟩
    · simp [ua_2, e]
    · simp [e]
    · by_cases q : x = p
      · simp [ua_2, q, e]
      · simp [ua_2, q]
  have ve : eqx [] [21] w w' := by
    rcases hw with ⟨e, rfl⟩ | ⟨e, rfl | rfl⟩
    · exact eqx_ua eqx.rf (by decide)
    · exact eqx.rf
    · exact eqx_ua eqx.rf (by decide)
  have v3 := ve.1 3 (by decide)
  have v2 := ve.1 2 (by decide)
  have vK : KJs w' := by
    have := h1.2.1
    unfold KJs at this ⊢
    rw [v2, v3, ve.2 4 (by decide), ve.2 5 (by decide), ve.2 6 (by decide), ve.2 7 (by decide)]
    exact this
  have vx : kext w w' := ⟨v2.symm, by omega, fun k _ => by rw [ve.2 4 (by decide), ve.2 5 (by decide), ve.2 6 (by decide), ve.2 7 (by decide)]; exact ⟨rfl, rfl, rfl, rfl⟩⟩
  have v19 : w'.2 19 = w.2 19 := ve.2 19 (by decide)
  have v20 : w'.2 20 = w.2 20 := ve.2 20 (by decide)
  have jn : ∀ x, (jsn J p z).2.2 x = if x = p ∧ J.2.2 p = 0 then z else J.2.2 x := fun x => by
    unfold jsn
    by_cases e : J.2.2 p = 0
    · rw [if_pos e]
      show (if x = p then z else J.2.2 x) = _
      simp [e]
    · rw [if_neg e, if_neg (fun q => e q.2)]
  have j1 : (jsn J p z).1 = J.1 ∧ (jsn J p z).2.1 = J.2.1 := by
    unfold jsn
    split
    · exact ⟨rfl, rfl⟩
    · exact ⟨rfl, rfl⟩
  refine ⟨⟨h1.tr ⟨ve.up (fun y q => by cases q) (fun f q => by simp at q ⊢; omega), vK, vx, fun x hx => ?_⟩, fun x hx => ?_, ⟨by rw [v20]; exact h3, by rw [j1.2]; exact h4⟩, ⟨by rw [v21, if_neg (fun q => hpb q.1.symm)]; exact h5, by rw [jn, if_neg (fun q => hpb q.1.symm)]; exact h6⟩, by omega⟩, vx⟩
  · have hxp : x ≠ p := fun e => hx (by rw [e]; exact hpt)
    rw [v19, v20, v21, if_neg (fun q => hxp q.1)]
    exact ⟨rfl, rfl, rfl⟩
  · obtain ⟨⟨a1, a2⟩, a3, a4⟩ := h2 x hx
    rw [j1.1, j1.2, jn, v19, v20, v21, hj]
    refine ⟨⟨kext_vk vx a1, (kext_kt vx h1.2.1 a1).trans a2⟩, aK_x vx h1.2.1 a3, ?_⟩
    split
    · exact ⟨rfl, hz⟩
    · exact a4

