section
/-! Judging by the desk: from making to judging. Printed by wip/gen2/mkjd.py, mkjd2.py out of 73 to 74d, then changed by hand. -/
def POSTd (s : SM) (t : Term) (A : Option Term) (J : JT) (S : Int → Prop) (r : Int) (w : SM) : Prop :=
  JX s w (fl t) ∧ w.1 3 ≤ s.1 3 + 20 * (fl t).length ∧ (vks w r ∧ kts w r = (jds s t A J).2) ∧ JR w (jds s t A J).1 (fun x => S x ∨ x ∈ fl t)
def HTd (Tn : Int → Prop) (ρ : Int → Option Int) (t : Term) (S : Int → Prop) : Prop := (∀ x, x ∈ fl t → Tn x) ∧ ∀ x, ρ x ≠ none → x ∉ fl t ∧ ¬ S x
def JSPd (iv : List (Int × Int)) (L : Nat) (h0 : MH) (Ad : Int → Nat) (Tn : Int → Prop) (n : Nat) : Prop := ∀ (ρ : Int → Option Int) (t : Term) (s : SM) (a : Int) (A : Option Term) (J : JT) (S : Int → Prop), dpt t ≤ n → PRT s t → PRJ s (hd t) (fl t) J S → aK s a A → s.1 3 + 20 * (fl t).length ≤ 1440 → HTd Tn ρ t S → cj iv L h0 Ad Tn ρ n (3 * n + 45) 88 [vr 307, vi (hd t), vi a] s (qi (POSTd s t A J S))
theorem cjm {iv : List (Int × Int)} {L : Nat} {h0 : MH} {Ad : Int → Nat} {Tn : Int → Prop} {ρ : Int → Option Int} {k d d' M : Nat} {s : SM} {as : List VV} {F F' : Int → SM → Prop} (h : cj iv L h0 Ad Tn ρ k d M as s (qi F)) (hd : d ≤ d') (hq : ∀ z s', F z s' → F' z s') : cj iv L h0 Ad Tn ρ k d' M as s (qi F') := cji_mono h hd (Nat.le_refl _) hq
theorem seenAs_okd {iv : List (Int × Int)} {L : Nat} {h0 : MH} {Ad : Int → Nat} {Tn : Int → Prop} {ρ : Int → Option Int} {k d : Nat} {s : SM} {b : Int} {F : Int → SM → Prop} (hT : Tn b) (hρ : ρ b = none) (hr : 0 ≤ s.2 21 b) (h : F (if 0 < s.2 21 b then 0 else s.2 19 b) s) : cj iv L h0 Ad Tn ρ k d 87 [vr 307, vi b] s (qi F) := by
  refine D87 hT hρ ⟨fun q => ?_, fun q => ?_⟩
  · rw [if_pos (by omega)] at h; exact h
  · rw [if_neg (by omega)] at h; exact h
section
variable {iv : List (Int × Int)} {L : Nat} {h0 : MH} {Ad : Int → Nat} {Tn : Int → Prop} {ρ : Int → Option Int} {k : Nat}
/-- make() as a spec: what it comes to, the node's own kind left out -/
def MPOSTd (s : SM) (t : Term) (A : Option Term) (M : JT × Term) (S : Int → Prop) (r : Int) (w : SM) : Prop :=
  JX s w (fl t) ∧ w.1 3 ≤ s.1 3 + 20 * (fl t).length ∧ (vks w r ∧ kts w r = M.2) ∧ JR w M.1 (fun x => S x ∨ (x ∈ fl t ∧ x ≠ hd t)) ∧ (aK w (w.2 20 (hd t)) A ∧ M.1.2.1 (hd t) = A) ∧ (w.2 21 (hd t) = M.1.2.2 (hd t) ∧ 0 ≤ M.1.2.2 (hd t) ∧ M.1.2.2 (hd t) ≤ 6)
theorem judge_of_maked {s : SM} {t : Term} {a : Int} {A : Option Term} {J : JT} {S : Int → Prop} {n : Nat} {M : JT × Term} (hT : PRT s t) (hP : PRJ s (hd t) (fl t) J S) (ha : aK s a A) (hM : jds s t A J = jen (s.2 9 (hd t)) (hd t) A M) (hbd : s.1 3 + 20 * (fl t).length ≤ 1440) (hTb : Tn (hd t)) (hρb : ρ (hd t) = none)
    (hmk : cj iv L h0 Ad Tn ρ k (n + 44) 89 [vr 307, vi (hd t), vi a] (ua (ua s 20 (hd t) a) 21 (hd t) 0) (qi (MPOSTd s t A M S))) : cj iv L h0 Ad Tn ρ (k + 1) (n + 45) 88 [vr 307, vi (hd t), vi a] s (qi (POSTd s t A J S)) := by
  obtain ⟨hA, hf, hnd, htd, hDP⟩ := hT
  have hb := (AT_mem t hA _ (hd_mem t hA)).1
  have hbm := hd_mem t hA
  obtain ⟨hKJ, hBO, hJR, hSl⟩ := hP
  refine D88 hTb hρb (cjm hmk (Nat.le_refl _) ?_)
  rintro r w ⟨hX, hk, ⟨hv, hkt⟩, hR, ⟨hak, haA⟩, hr1, hr2, hr3⟩
  have hKw := hX.2.1
  have ha2 := aK_x hX.2.2.1 hKJ ha
  -- the rows behind 'made'
  have fin : ∀ (z : Int), (z = 0 ∨ z = 6) → (z = 6 → w.2 21 (hd t) = 0) → jcl (s.2 9 (hd t)) (hd t) A M.2 (jmd (hd t) M.2 M.1) = (if z = 6 then jsr (jmd (hd t) M.2 M.1) (hd t) 6 else jmd (hd t) M.2 M.1) →
      cj iv L h0 Ad Tn ρ k (n + 44) 87 [vr 307, vi (hd t)] (if z = 6 then ua (ua w 19 (hd t) r) 21 (hd t) 6 else ua w 19 (hd t) r) (qi (POSTd s t A J S)) := by
    intro z hz hz6 hcl
    generalize hv2 : (if z = 6 then ua (ua w 19 (hd t) r) 21 (hd t) 6 else ua w 19 (hd t) r) = v
    have v19 : ∀ x, v.2 19 x = if x = hd t then r else w.2 19 x := fun x => by
      rw [← hv2]
      rcases hz with rfl | rfl
      · simp [ua_2]
      · simp [ua_2]
    have v20 : ∀ x, v.2 20 x = w.2 20 x := fun x => by
      rw [← hv2]
      rcases hz with rfl | rfl
      · simp [ua_2]
      · simp [ua_2]
    have v21 : ∀ x, v.2 21 x = if x = hd t ∧ z = 6 then 6 else w.2 21 x := fun x => by
      rw [← hv2]
      rcases hz with rfl | rfl
      · simp [ua_2]
      · simp [ua_2]
    have ve : eqx [] [19, 21] w v := by
      rw [← hv2]
      rcases hz with rfl | rfl
      · rw [if_neg (by decide)]; exact eqx_ua eqx.rf (by decide)
      · rw [if_pos rfl]; exact eqx_ua (eqx_ua eqx.rf (by decide)) (by decide)
    have vK : KJs v := by
      unfold KJs at hKw ⊢
      rw [ve.1 2 (by decide), ve.1 3 (by decide), ve.2 4 (by decide), ve.2 5 (by decide), ve.2 6 (by decide), ve.2 7 (by decide)]
      exact hKw
    have vx : kext w v := ⟨(ve.1 2 (by decide)).symm, by rw [ve.1 3 (by decide)]; exact Int.le_refl _, fun k _ => by rw [ve.2 4 (by decide), ve.2 5 (by decide), ve.2 6 (by decide), ve.2 7 (by decide)]; exact ⟨rfl, rfl, rfl, rfl⟩⟩
    have vX : JX s v (fl t) := hX.tr ⟨ve.up (fun y q => by cases q) (fun f q => by simp at q ⊢; omega), vK, vx, fun x hx => by
      have hxt : x ≠ hd t := fun e => hx (by rw [e]; exact hbm)
      rw [v19, v20, v21, if_neg hxt, if_neg (fun q => hxt q.1)]
      exact ⟨rfl, rfl, rfl⟩⟩
    have e21 : v.2 21 (hd t) = (jcl (s.2 9 (hd t)) (hd t) A M.2 (jmd (hd t) M.2 M.1)).2.2 (hd t) := by
      rw [v21, hcl]
      rcases hz with rfl | rfl
      · rw [if_neg (fun q => absurd q.2 (by decide)), if_neg (by decide)]; exact hr1
      · rw [if_pos ⟨rfl, rfl⟩, if_pos rfl]
        show (6 : Int) = if hd t = hd t then 6 else _
        rw [if_pos rfl]
    have eo : ∀ x, x ≠ hd t → (jcl (s.2 9 (hd t)) (hd t) A M.2 (jmd (hd t) M.2 M.1)).1 x = M.1.1 x ∧ (jcl (s.2 9 (hd t)) (hd t) A M.2 (jmd (hd t) M.2 M.1)).2.1 x = M.1.2.1 x ∧ (jcl (s.2 9 (hd t)) (hd t) A M.2 (jmd (hd t) M.2 M.1)).2.2 x = M.1.2.2 x := fun x hx => by
      rw [hcl]
      rcases hz with rfl | rfl
      · rw [if_neg (by decide)]
        exact ⟨if_neg hx, rfl, rfl⟩
      · rw [if_pos rfl]
        exact ⟨if_neg hx, rfl, if_neg hx⟩
    have ebm : (jcl (s.2 9 (hd t)) (hd t) A M.2 (jmd (hd t) M.2 M.1)).1 (hd t) = M.2 ∧ (jcl (s.2 9 (hd t)) (hd t) A M.2 (jmd (hd t) M.2 M.1)).2.1 (hd t) = M.1.2.1 (hd t) := by
      rw [hcl]
      rcases hz with rfl | rfl
      · rw [if_neg (by decide)]
        exact ⟨if_pos rfl, rfl⟩
      · rw [if_pos rfl]
        exact ⟨if_pos rfl, rfl⟩
    have r6 : 0 ≤ (jcl (s.2 9 (hd t)) (hd t) A M.2 (jmd (hd t) M.2 M.1)).2.2 (hd t) ∧ (jcl (s.2 9 (hd t)) (hd t) A M.2 (jmd (hd t) M.2 M.1)).2.2 (hd t) ≤ 6 := by
      rw [← e21, v21]
      split
      · omega
      · omega
    have n0 : kts v 0 = .null := (kt_leaf vK).1 (vK.1.2.1 0 (by omega) (by omega)).1
    have hv2' := kext_vk vx hv
    have hkt2 := kext_kt vx hKw hv
    refine seenAs_okd hTb hρb (by rw [e21]; exact r6.1) ⟨vX, by rw [ve.1 3 (by decide)]; exact hk, ?_, ?_⟩
    · rw [hM]
      show vks v (if 0 < v.2 21 (hd t) then 0 else v.2 19 (hd t)) ∧ kts v (if 0 < v.2 21 (hd t) then 0 else v.2 19 (hd t)) = jsee (jcl (s.2 9 (hd t)) (hd t) A M.2 (jmd (hd t) M.2 M.1)) (hd t)
      unfold jsee
      rw [← e21, ebm.1]
      by_cases hp : 0 < v.2 21 (hd t)
      · rw [if_pos hp, if_pos hp]
        exact ⟨Or.inl ⟨by omega, by have := vK.1.1; omega⟩, n0⟩
      · rw [if_neg hp, if_neg hp, v19, if_pos rfl]
        exact ⟨hv2', hkt2.trans hkt⟩
    · rw [hM]
      show JR v (jcl (s.2 9 (hd t)) (hd t) A M.2 (jmd (hd t) M.2 M.1)) (fun x => S x ∨ x ∈ fl t)
      intro x hx
      by_cases e : x = hd t
      · subst e
        rw [ebm.1, ebm.2, ← e21, v19, if_pos rfl, v20]
        exact ⟨⟨hv2', hkt2.trans hkt⟩, by rw [haA]; exact aK_x vx hKw hak, rfl, by rw [e21]; exact r6⟩
      · obtain ⟨o1, o2, o3⟩ := eo x e
        obtain ⟨⟨a1, a2⟩, a3, a4⟩ := hR x (hx.imp id (fun q => ⟨q, e⟩))
        rw [o1, o2, o3, v19, if_neg e, v20, v21, if_neg (fun q => e q.1)]
        exact ⟨⟨kext_vk vx a1, (kext_kt vx hKw a1).trans a2⟩, aK_x vx hKw a3, a4⟩
  have noc : jcl (s.2 9 (hd t)) (hd t) A M.2 (jmd (hd t) M.2 M.1) = jmd (hd t) M.2 M.1 → cj iv L h0 Ad Tn ρ k (n + 44) 87 [vr 307, vi (hd t)] (ua w 19 (hd t) r) (qi (POSTd s t A J S)) := fun h => by
    have := fin 0 (Or.inl rfl) (fun q => absurd q (by decide)) (by rw [if_neg (by decide)]; exact h)
    rwa [if_neg (by decide)] at this
  have hw9 : w.2 9 = s.2 9 := hX.1.2 9 (by decide)
  refine ⟨fun e => noc ?_, fun e => ⟨fun e2 => noc ?_, fun e2 => ⟨fun e3 => noc ?_, fun e3 => ⟨fun e4 => noc ?_, fun e4 => ?_⟩⟩⟩⟩
  · cases A with
    | none => rfl
    | some T =>
      exfalso
      have := ha.1.lt hKJ.1.1.2 hKJ.2.1
      omega
  · cases A with
    | none => rfl
    | some T =>
      exact jcl_z (fun q => e2 (by rw [hr1]; exact q.1))
  · cases A with
    | none => rfl
    | some T =>
      exact jcl_z (fun q => q.2.1 (by rw [← hw9]; exact e3))
  · cases A with
    | none => rfl
    | some T =>
      exact jcl_z (fun q => q.2.2.1 (by rw [← hw9]; exact e4))
  · cases A with
    | none => exact absurd ha e
    | some T =>
      obtain ⟨ha3, ha4⟩ := ha2
      have v19 : (ua w 19 (hd t) r).2 19 (hd t) = r := by show (if 19 = 19 ∧ hd t = hd t then r else _) = r; rw [if_pos ⟨rfl, rfl⟩]
      have hz1 := (hKw.at ha3).1
      have hK2 : KJs (ua w 19 (hd t) r) := hKw
      refine cjm (areMeeting_okd hK2 (by show w.1 3 ≤ 1440; omega) ha3 hv) (by omega) ?_
      rintro q u ⟨rfl, rfl⟩
      have e5 : kmt (kts (ua w 19 (hd t) r) a) (kts (ua w 19 (hd t) r) r) = kmt T M.2 := by
        show kmt (kts w a) (kts w r) = _
        rw [ha4, hkt]
      rw [e5]
      cases hm : kmt T M.2 with
      | true =>
        refine ⟨fun _ => noc ?_, fun h => absurd h (by decide)⟩
        exact jcl_z (fun q => by rw [hm] at q; exact absurd q.2.2.2 (by decide))
      | false =>
        refine ⟨fun h => absurd rfl h, fun _ => ?_⟩
        have := fin 6 (Or.inr rfl) (fun _ => e2) (by
          rw [if_pos rfl]
          exact jcl_y ⟨hr1.symm.trans e2, by rw [← hw9]; exact e3, by rw [← hw9]; exact e4, hm⟩)
        rwa [if_pos rfl] at this
end
/-- a node, some of its parts judged -/
def SJd (s : SM) (t : Term) (a : Int) (A : Option Term) (S : Int → Prop) (dn : List Int) (J : JT) (w : SM) : Prop :=
  JX s w (fl t) ∧ JR w J (fun x => S x ∨ x ∈ dn) ∧ (w.2 20 (hd t) = a ∧ J.2.1 (hd t) = A) ∧ (w.2 21 (hd t) = 0 ∧ J.2.2 (hd t) = 0) ∧ w.1 3 ≤ s.1 3 + 20 * dn.length
theorem ST_0d {s : SM} {t : Term} {a : Int} {A : Option Term} {J : JT} {S : Int → Prop} (hT : PRT s t) (hP : PRJ s (hd t) (fl t) J S) : SJd s t a A S [] (jin (hd t) A J) (ua (ua s 20 (hd t) a) 21 (hd t) 0) := by
  obtain ⟨hA, hf, hnd, htd, hDP⟩ := hT
  obtain ⟨hKJ, hBO, hJR, hSl⟩ := hP
  have hbm := hd_mem t hA
  have hX : JX s (ua (ua s 20 (hd t) a) 21 (hd t) 0) (fl t) := ⟨eqx_ua (eqx_ua eqx.rf (by decide)) (by decide), hKJ, ⟨rfl, Int.le_refl _, fun _ _ => ⟨rfl, rfl, rfl, rfl⟩⟩, fun x hx => by
    have hxt : x ≠ hd t := fun e => hx (by rw [e]; exact hbm)
    simp [ua_2, hxt]⟩
  refine ⟨hX, fun x hx => ?_, ⟨by simp [ua_2], if_pos rfl⟩, ⟨by simp [ua_2], if_pos rfl⟩, by show s.1 3 ≤ _; simp⟩
  have hx : S x := hx.resolve_right (fun q => by cases q)
  have hxt : x ≠ hd t := fun e => hSl x hx (by rw [e]; exact hbm)
  obtain ⟨g1, g2, g3⟩ := AG_jin (J := J) (A := A) hxt
  rw [g1, g2, g3]
  exact JR_x hX hKJ hJR hSl x hx
section
variable {iv : List (Int × Int)} {L : Nat} {h0 : MH} {Ad : Int → Nat} {Tn : Int → Prop} {ρ : Int → Option Int} {k : Nat}
/-- one part more -/
theorem ST_1d {n : Nat} (hn : JSPd iv L h0 Ad Tn n) {s w : SM} {t u y : Term} {a a' : Int} {A A' : Option Term} {J J' : JT} {S : Int → Prop} {dn : List Int} {d : Nat} {F : Int → SM → Prop} (hT : PRT s t) (hP : PRJ s (hd t) (fl t) J S) (hst : SJd s t a A S dn J' w)
    (hA : ATj s (.add u y)) (hsub : ∃ r, fl t = fl (.add u y) ++ r) (hhd : hd u = hd t) (hdn : ∀ x, x ∈ dn → x ∈ fl u) (hL : s.2 9 (hd t) = 10 → na u = 1 → s.2 14 (3 * hd t) ∈ dn) (hdp : dpt y ≤ n) (hbd : s.1 3 + 20 * (dn.length + (fl y).length : Nat) ≤ 1440) (ha : aK w a' A') (hd1 : 3 * n + 45 ≤ d) (hTn : ∀ x, x ∈ fl y → Tn x) (hρn : ∀ x, ρ x ≠ none → x ∉ fl y ∧ ¬ (S x ∨ x ∈ dn))
    (hgo : ∀ r v, SJd s t a A S (dn ++ fl y) (jds s y A' J').1 v → kext w v → vks v r → kts v r = (jds s y A' J').2 → F r v) : cj iv L h0 Ad Tn ρ n d 88 [vr 307, vi (hd y), vi a'] w (qi F) := by
  obtain ⟨hX, hR, ⟨hk1, hk2⟩, ⟨hr1, hr2⟩, hb⟩ := hst
  obtain ⟨hTA, hf, hnd, htd, hDP⟩ := hT
  obtain ⟨hKJ, hBO, hJR, hSl⟩ := hP
  obtain ⟨r0, hr0⟩ := hsub
  have hndy : (fl (.add u y)).Nodup := by rw [hr0] at hnd; exact (List.nodup_append.mp hnd).1
  have hmem : ∀ x, x ∈ fl (.add u y) → x ∈ fl t := fun x hx => by rw [hr0]; exact List.mem_append_left _ hx
  have hym : ∀ x, x ∈ fl y → x ∈ fl t := fun x hx => hmem x (List.mem_append_right _ hx)
  obtain ⟨d1, d2, d3⟩ := List.nodup_append.mp hndy
  have huy : ∀ x, x ∈ fl u → x ∉ fl y := fun x hx q => d3 x hx x q rfl
  have hbu : hd t ∈ fl u := by rw [← hhd]; exact hd_mem u hA.1
  have hby : hd t ∉ fl y := huy _ hbu
  have hKw := hX.2.1
  have hPy : PRT s y := kid_T hA hndy (fun x hx => htd x (hmem x hx)) (fun x hx => hDP x (hmem x hx))
  have hBy : ∀ x, BOK w (fun x => S x ∨ x ∈ dn) (bds w (hd y) x) := fun x => by
    rw [bds_x hX]
    refine BOK_x hX (kid_B (S := S) (S' := fun x => S x ∨ x ∈ dn) hA (by rw [hhd]; exact fun e => htd _ (hmem _ (List.mem_append_left _ hbu)) (Or.inl e)) ?_ (by rw [hhd]; exact hBO) (fun x q => Or.inl q) ?_ x)
    · rw [hhd]
      have h70 := hDP (hd y) (hym _ (hd_mem y hA.2.1))
      obtain ⟨-, -, -, -, -, e6, -⟩ := hA
      have h71 : s.2 12 (hd y) = -9 ∨ ((0 ≤ s.2 12 (hd y) ∧ s.2 12 (hd y) < 3004) ∧ DP (s.2 12) 69 (s.2 12 (hd y))) := h70
      rw [e6, hhd] at h71
      rcases h71 with q | q
      · have := (AT_mem t hTA _ (hd_mem t hTA)).1
        omega
      · exact q.2
    · rw [hhd]
      intro e10 e1
      have hm := hL e10 e1
      have hm2 := (AT_mem t hTA _ (hmem _ (List.mem_append_left _ (hdn _ hm)))).1
      exact ⟨Or.inr hm, hm2⟩
  have hSy : ∀ x, (S x ∨ x ∈ dn) → x ∉ fl y := fun x hx => hx.elim (fun q w => hSl x q (hym x w)) (fun q => huy x (hdn x q))
  have spec := hn ρ y w a' A' J' (fun x => S x ∨ x ∈ dn) hdp (PRT_x hX hPy) ⟨hKw, hBy, hR, hSy⟩ ha (by push_cast at hbd; omega) ⟨hTn, hρn⟩
  refine cjm spec hd1 ?_
  rintro r v ⟨p1, p2, ⟨p3, p4⟩, p5⟩
  rw [jds_x hX hKJ] at p4 p5
  have out := jd_out (so := s.2 9) (nu := s.2 10) (td := s.2 11) (pa := s.2 14) (kk := kks s) (bd := bds s) (dpt y) y (Nat.le_refl _) hA.2.1 A' J' (hd t) hby
  obtain ⟨o1, o2, o3⟩ := p1.2.2.2 (hd t) hby
  refine hgo r v ⟨hX.tr (p1.up hym), JR_mono p5 (fun x hx => ?_), ⟨by rw [o2]; exact hk1, ?_⟩, ⟨by rw [o3]; exact hr1, ?_⟩, ?_⟩ p1.2.2.1 p3 p4
  · rcases hx with q | q
    · exact Or.inl (Or.inl q)
    · rcases List.mem_append.mp q with q | q
      · exact Or.inl (Or.inr q)
      · exact Or.inr q
  · exact out.2.1.trans hk2
  · exact out.2.2.trans hr2
  · rw [List.length_append]; push_cast; omega
end
/-- all parts judged: what the making comes to -/
theorem MP_0d {s w : SM} {t : Term} {a r : Int} {A : Option Term} {S : Int → Prop} {dn : List Int} {J : JT} {m : Term} (hst : SJd s t a A S dn J w) (hnd : (fl t).Nodup) (ha : aK s a A) (hKJ : KJs s) (hdn : ∀ x, x ∈ fl t → x ≠ hd t → x ∈ dn) (hlen : dn.length + 1 ≤ (fl t).length) {w' : SM} (hX : JX w w' []) (hb : w'.1 3 ≤ w.1 3 + 20) (hv : vks w' r) (hk : kts w' r = m) : MPOSTd s t A (J, m) S r w' := by
  obtain ⟨h1, h2, ⟨h3, h4⟩, ⟨h5, h6⟩, h7⟩ := hst
  obtain ⟨o1, o2, o3⟩ := hX.2.2.2 (hd t) (by simp)
  refine ⟨h1.tr (hX.up (fun x q => by cases q)), by omega, ⟨hv, hk⟩, JR_mono (JR_x hX h1.2.1 h2 (fun x _ q => by cases q)) (fun x hx => hx.imp id (fun q => hdn x q.1 q.2)), ⟨?_, h4⟩, ?_⟩
  · rw [o2, h3]
    exact aK_x hX.2.2.1 h1.2.1 (aK_x h1.2.2.1 hKJ ha)
  · show w'.2 21 (hd t) = J.2.2 (hd t) ∧ 0 ≤ J.2.2 (hd t) ∧ J.2.2 (hd t) ≤ 6
    rw [o3, h5, h6]
    omega
/-- .. with a reason of its own -/
theorem MP_rd {s w : SM} {t : Term} {a r z : Int} {A : Option Term} {S : Int → Prop} {dn : List Int} {J : JT} {m : Term} (hst : SJd s t a A S dn J w) (hnd : (fl t).Nodup) (ha : aK s a A) (hKJ : KJs s) (hSl : ∀ x, S x → x ∉ fl t) (hb0 : hd t ∈ fl t) (hbd : hd t ∉ dn) (hz : 0 ≤ z ∧ z ≤ 6) (hdn : ∀ x, x ∈ fl t → x ≠ hd t → x ∈ dn) (hlen : dn.length + 1 ≤ (fl t).length) {w' : SM} (hX : JX (ua w 21 (hd t) z) w' []) (hb : w'.1 3 ≤ w.1 3 + 20) (hv : vks w' r) (hk : kts w' r = m) : MPOSTd s t A (jsr J (hd t) z, m) S r w' := by
  obtain ⟨h1, h2, ⟨h3, h4⟩, ⟨h5, h6⟩, h7⟩ := hst
  have hX0 : JX w (ua w 21 (hd t) z) (fl t) := ⟨eqx_ua eqx.rf (by decide), h1.2.1, ⟨rfl, Int.le_refl _, fun _ _ => ⟨rfl, rfl, rfl, rfl⟩⟩, fun x hx => by
    have hxt : x ≠ hd t := fun e => hx (by rw [e]; exact hb0)
    simp [ua_2, hxt]⟩
  have hX2 : JX w w' (fl t) := hX0.tr (hX.up (fun x q => by cases q))
  obtain ⟨o1, o2, o3⟩ := hX.2.2.2 (hd t) (by simp)
  have e20 : (ua w 21 (hd t) z).2 20 (hd t) = w.2 20 (hd t) := by simp [ua_2]
  have e21 : (ua w 21 (hd t) z).2 21 (hd t) = z := by simp [ua_2]
  refine ⟨h1.tr hX2, by omega, ⟨hv, hk⟩, fun x hx => ?_, ⟨?_, h4⟩, ?_⟩
  · have hxb : x ≠ hd t := by
      rcases hx with q | q
      · exact fun e => hSl x q (by rw [e]; exact hb0)
      · exact q.2
    obtain ⟨⟨a1, a2⟩, a3, a4⟩ := h2 x (hx.imp id (fun q => hdn x q.1 q.2))
    obtain ⟨b1, b2, b3⟩ := hX.2.2.2 x (by simp)
    have c1 : (ua w 21 (hd t) z).2 19 x = w.2 19 x := by simp [ua_2]
    have c2 : (ua w 21 (hd t) z).2 20 x = w.2 20 x := by simp [ua_2]
    have c3 : (ua w 21 (hd t) z).2 21 x = w.2 21 x := by simp [ua_2, hxb]
    obtain ⟨g1, g2, g3⟩ := AG_jsr (J := J) (z := z) hxb
    rw [b1, b2, b3, c1, c2, c3, g1, g2, g3]
    exact ⟨⟨kext_vk hX2.2.2.1 a1, (kext_kt hX2.2.2.1 h1.2.1 a1).trans a2⟩, aK_x hX2.2.2.1 h1.2.1 a3, a4⟩
  · rw [o2, e20, h3]
    exact aK_x hX2.2.2.1 h1.2.1 (aK_x h1.2.2.1 hKJ ha)
  · show w'.2 21 (hd t) = (if hd t = hd t then z else _) ∧ 0 ≤ (if hd t = hd t then z else _) ∧ (if hd t = hd t then z else _) ≤ 6
    rw [if_pos rfl, o3, e21]
    exact ⟨rfl, hz⟩
/-- a part gets a reason, if it has none -/
theorem ST_nd {s w w' : SM} {t : Term} {a z p : Int} {A : Option Term} {S : Int → Prop} {dn : List Int} {J : JT} (hst : SJd s t a A S dn J w) (hp : p ∈ dn) (hpt : p ∈ fl t) (hpb : p ≠ hd t) (hz : 0 ≤ z ∧ z ≤ 6) (hw : (w.2 21 p = 0 ∧ w' = ua w 21 p z) ∨ (w.2 21 p ≠ 0 ∧ (w' = w ∨ w' = ua w 21 p (w.2 21 p)))) : SJd s t a A S dn (jsn J p z) w' ∧ kext w w' := by
  obtain ⟨h1, h2, ⟨h3, h4⟩, ⟨h5, h6⟩, h7⟩ := hst
  have hj := (h2 p (Or.inr hp)).2.2.1
  have v21 : ∀ x, w'.2 21 x = if x = p ∧ w.2 21 p = 0 then z else w.2 21 x := fun x => by
    rcases hw with ⟨e, rfl⟩ | ⟨e, rfl | rfl⟩
    · simp [ua_2, e]
    · simp [e]
    · by_cases q : x = p
      · simp [ua_2, q, e]
      · simp [ua_2, q]
  have ve : eqx [] [21] w w' := by
    rcases hw with ⟨e, rfl⟩ | ⟨e, rfl | rfl⟩
    · exact eqx_ua eqx.rf (by decide)
    · exact eqx.rf
    · exact eqx_ua eqx.rf (by decide)
  have v3 := ve.1 3 (by decide)
  have v2 := ve.1 2 (by decide)
  have vK : KJs w' := by
    have := h1.2.1
    unfold KJs at this ⊢
    rw [v2, v3, ve.2 4 (by decide), ve.2 5 (by decide), ve.2 6 (by decide), ve.2 7 (by decide)]
    exact this
  have vx : kext w w' := ⟨v2.symm, by omega, fun k _ => by rw [ve.2 4 (by decide), ve.2 5 (by decide), ve.2 6 (by decide), ve.2 7 (by decide)]; exact ⟨rfl, rfl, rfl, rfl⟩⟩
  have v19 : w'.2 19 = w.2 19 := ve.2 19 (by decide)
  have v20 : w'.2 20 = w.2 20 := ve.2 20 (by decide)
  have jn : ∀ x, (jsn J p z).2.2 x = if x = p ∧ J.2.2 p = 0 then z else J.2.2 x := fun x => by
    unfold jsn
    by_cases e : J.2.2 p = 0
    · rw [if_pos e]
      show (if x = p then z else J.2.2 x) = _
      simp [e]
    · rw [if_neg e, if_neg (fun q => e q.2)]
  have j1 : (jsn J p z).1 = J.1 ∧ (jsn J p z).2.1 = J.2.1 := by
    unfold jsn
    split
    · exact ⟨rfl, rfl⟩
    · exact ⟨rfl, rfl⟩
  refine ⟨⟨h1.tr ⟨ve.up (fun y q => by cases q) (fun f q => by simp at q ⊢; omega), vK, vx, fun x hx => ?_⟩, fun x hx => ?_, ⟨by rw [v20]; exact h3, by rw [j1.2]; exact h4⟩, ⟨by rw [v21, if_neg (fun q => hpb q.1.symm)]; exact h5, by rw [jn, if_neg (fun q => hpb q.1.symm)]; exact h6⟩, by omega⟩, vx⟩
  · have hxp : x ≠ p := fun e => hx (by rw [e]; exact hpt)
    rw [v19, v20, v21, if_neg (fun q => hxp q.1)]
    exact ⟨rfl, rfl, rfl⟩
  · obtain ⟨⟨a1, a2⟩, a3, a4⟩ := h2 x hx
    rw [j1.1, j1.2, jn, v19, v20, v21, hj]
    refine ⟨⟨kext_vk vx a1, (kext_kt vx h1.2.1 a1).trans a2⟩, aK_x vx h1.2.1 a3, ?_⟩
    split
    · exact ⟨rfl, hz⟩
    · exact a4
end
section
/-! The desk judges as the function tells: most sorts. -/
def CTXd (Tn : Int → Prop) (ρ : Int → Option Int) (n : Nat) (s : SM) (t : Term) (a : Int) (A : Option Term) (J : JT) (S : Int → Prop) : Prop := dpt t ≤ n + 1 ∧ PRT s t ∧ PRJ s (hd t) (fl t) J S ∧ aK s a A ∧ s.1 3 + 20 * (fl t).length ≤ 1440 ∧ HTd Tn ρ t S
section
variable {iv : List (Int × Int)} {L : Nat} {h0 : MH} {Ad : Int → Nat} {Tn : Int → Prop} {ρ : Int → Option Int} {k : Nat} {n : Nat} {s : SM} {t : Term} {a : Int} {A : Option Term} {J : JT} {S : Int → Prop}
theorem HTm (h : CTXd Tn ρ n s t a A J S) : Tn (hd t) := h.2.2.2.2.2.1 _ (hd_mem t h.2.1.1)
theorem HTr (h : CTXd Tn ρ n s t a A J S) : ρ (hd t) = none := by
  cases e : ρ (hd t) with
  | none => rfl
  | some z => exact absurd (hd_mem t h.2.1.1) (h.2.2.2.2.2.2 (hd t) (by rw [e]; intro c; cases c)).1
theorem HTp (h : CTXd Tn ρ n s t a A J S) {y : Term} {dn : List Int} (hy : ∀ x, x ∈ fl y → x ∈ fl t) (hdn : ∀ x, x ∈ dn → x ∈ fl t) : (∀ x, x ∈ fl y → Tn x) ∧ ∀ x, ρ x ≠ none → x ∉ fl y ∧ ¬ (S x ∨ x ∈ dn) := ⟨fun x hx => h.2.2.2.2.2.1 x (hy x hx), fun x q => ⟨fun w => (h.2.2.2.2.2.2 x q).1 (hy x w), fun w => w.elim (h.2.2.2.2.2.2 x q).2 (fun w => (h.2.2.2.2.2.2 x q).1 (hdn x w))⟩⟩
/-- a reason may be given to a part that was judged -/
theorem HTq (h : CTXd Tn ρ n s t a A J S) {x : Int} (hx : x ∈ fl t) : ρ x = none := by
  cases e : ρ x with
  | none => rfl
  | some z => exact absurd hx (h.2.2.2.2.2.2 x (by rw [e]; intro c; cases c)).1
theorem by_maked {M : JT × Term} (h : CTXd Tn ρ n s t a A J S) (hM : jds s t A J = jen (s.2 9 (hd t)) (hd t) A M) (hmk : ∀ s0, SJd s t a A S [] (jin (hd t) A J) s0 → cj iv L h0 Ad Tn ρ n (3 * n + 47) 89 [vr 307, vi (hd t), vi a] s0 (qi (MPOSTd s t A M S))) : cj iv L h0 Ad Tn ρ (n + 1) (3 * (n + 1) + 45) 88 [vr 307, vi (hd t), vi a] s (qi (POSTd s t A J S)) := by
  have hTm := HTm h
  have hρm := HTr h
  obtain ⟨h1, h2, h3, h4, h5, h6⟩ := h
  exact judge_of_maked (n := 3 * n + 3) h2 h3 h4 hM h5 hTm hρm (hmk _ (ST_0d h2 h3))
/-- what stays while parts are judged -/
theorem ST_samed {dn : List Int} {J' : JT} {w : SM} (h : SJd s t a A S dn J' w) : w.2 9 = s.2 9 ∧ w.2 10 = s.2 10 ∧ w.2 11 = s.2 11 ∧ w.2 12 = s.2 12 ∧ w.2 13 = s.2 13 ∧ w.2 14 = s.2 14 ∧ w.1 2 = s.1 2 ∧ KJs w ∧ kext s w := ⟨h.1.1.2 9 (by decide), h.1.1.2 10 (by decide), h.1.1.2 11 (by decide), h.1.1.2 12 (by decide), h.1.1.2 13 (by decide), h.1.1.2 14 (by decide), h.1.1.1 2 (by decide), h.1.2.1, h.1.2.2.1⟩
theorem jsp_leafd (h : CTXd Tn ρ n s t a A J S) (h3 : s.2 9 (hd t) = 0 ∨ s.2 9 (hd t) = 1 ∨ s.2 9 (hd t) = 2) : cj iv L h0 Ad Tn ρ (n + 1) (3 * (n + 1) + 45) 88 [vr 307, vi (hd t), vi a] s (qi (POSTd s t A J S)) := by
  obtain ⟨hA, hf, hnd, htd, hDP⟩ := id h.2.1
  have hna : na t = 0 := by
    rw [hf]
    rcases h3 with e | e | e <;> rw [e] <;> rfl
  obtain ⟨b, rfl⟩ := AT_0 hA hna
  have hb := (AT_mem _ hA _ (hd_mem _ hA)).1
  have hdn : ∀ x, x ∈ fl (Term.index b) → x ≠ hd (Term.index b) → x ∈ ([] : List Int) := fun x hx hn => absurd (List.mem_singleton.mp hx) hn
  rcases h3 with e | e | e
  · refine by_maked (M := (jin (hd (Term.index b)) A J, .null)) h ?_ (fun s0 st => ?_)
    · have e : s.2 9 (b : Int) = 0 := e
      show jen (s.2 9 b) b A _ = _
      rw [if_pos e]
      rfl
    · obtain ⟨q9, -, -, -, -, -, -, qK, -⟩ := ST_samed st
      refine dmk_0 (HTm h) (by rw [q9]; exact e) ?_
      exact MP_0d st hnd h.2.2.2.1 h.2.2.1.1 hdn (Nat.le_refl 1) (JX.rf qK) (by omega) (k_const qK).1.1 (k_const qK).1.2
  · refine by_maked (M := (jin (hd (Term.index b)) A J, .result)) h ?_ (fun s0 st => ?_)
    · have e : s.2 9 (b : Int) = 1 := e
      show jen (s.2 9 b) b A _ = _
      rw [if_neg (by omega), if_pos e]
      rfl
    · obtain ⟨q9, -, -, -, -, -, -, qK, -⟩ := ST_samed st
      refine dmk_1 (HTm h) (by rw [q9]; exact e) ?_
      exact MP_0d st hnd h.2.2.2.1 h.2.2.1.1 hdn (Nat.le_refl 1) (JX.rf qK) (by omega) (k_const qK).2.1.1 (k_const qK).2.1.2
  · refine by_maked (M := (jin (hd (Term.index b)) A J, .thrown)) h ?_ (fun s0 st => ?_)
    · have e : s.2 9 (b : Int) = 2 := e
      show jen (s.2 9 b) b A _ = _
      rw [if_neg (by omega), if_neg (by omega), if_pos e]
      rfl
    · obtain ⟨q9, -, -, -, -, -, -, qK, -⟩ := ST_samed st
      refine dmk_2 (HTm h) (by rw [q9]; exact e) ?_
      exact MP_0d st hnd h.2.2.2.1 h.2.2.1.1 hdn (Nat.le_refl 1) (JX.rf qK) (by omega) (k_const qK).2.2.1 (k_const qK).2.2.2
theorem jsp_named (h : CTXd Tn ρ n s t a A J S) (e : s.2 9 (hd t) = 3) : cj iv L h0 Ad Tn ρ (n + 1) (3 * (n + 1) + 45) 88 [vr 307, vi (hd t), vi a] s (qi (POSTd s t A J S)) := by
  obtain ⟨hA, hf, hnd, htd, hDP⟩ := id h.2.1
  obtain ⟨hKJ, hBO, hJR, hSl⟩ := id h.2.2.1
  have hna : na t = 0 := by rw [hf, e]; rfl
  obtain ⟨b, rfl⟩ := AT_0 hA hna
  have hbm := hd_mem _ hA
  have hb := (AT_mem _ hA _ hbm).1
  have hdn : ∀ x, x ∈ fl (Term.index b) → x ≠ hd (Term.index b) → x ∈ ([] : List Int) := fun x hx hn => absurd (List.mem_singleton.mp hx) hn
  refine by_maked (M := jnm (s.2 9) (s.2 11) (s.2 14) (kks s) (bds s b (s.2 10 b)) b (jin (hd (Term.index b)) A J)) h ?_ (fun s0 st => ?_)
  · have e : s.2 9 (b : Int) = 3 := e
    show jen (s.2 9 b) b A _ = _
    rw [if_neg (by omega), if_neg (by omega), if_neg (by omega)]
    rfl
  · obtain ⟨q9, q10, q11, q12, q13, q14, q2, qK, qx⟩ := ST_samed st
    have hb0 : bds s0 = bds s := bds_x st.1
    refine dmk_3 (HTm h) (HTr h) (by rw [q9]; exact e) (by rw [q12]; exact hDP _ hbm) ?_
    rw [hb0, q9, q10, q11, q14]
    have hbo := hBO (s.2 10 (hd (Term.index b)))
    generalize hu2 : bds s (hd (Term.index b)) (s.2 10 (hd (Term.index b))) = u at *
    have hu3 : bds s b (s.2 10 b) = u := hu2
    rw [hu3]
    refine ⟨fun hn => ?_, fun hn _ => ?_⟩
    rotate_left
    · obtain ⟨h1, h2⟩ := hbo.resolve_left hn
      refine ⟨fun e8 => ?_, fun e8 => ?_⟩
      · obtain ⟨-, t1, t2⟩ := h2.resolve_right (fun q => by omega)
        have hM : jnm (s.2 9) (s.2 11) (s.2 14) (kks s) u b (jin (hd (Term.index b)) A J) = (jin (hd (Term.index b)) A J, kks s (s.2 11 u)) := by
          unfold jnm
          rw [if_neg hn, if_pos e8]
        rw [hM]
        have hv : vks s (s.2 11 u) := Or.inl ⟨t1, t2⟩
        exact MP_0d st hnd h.2.2.2.1 hKJ hdn (Nat.le_refl 1) (JX.rf qK) (by omega) (kext_vk qx hv) (by rw [kext_kt qx hKJ hv, kks_told ⟨t1, t2⟩])
      · obtain ⟨e10, hSp, hp1, hp2⟩ := h2.resolve_left (fun q => e8 q.1)
        obtain ⟨⟨a1, a2⟩, a3, a4⟩ := st.2.1 _ (Or.inl hSp)
        have hM : jnm (s.2 9) (s.2 11) (s.2 14) (kks s) u b (jin (hd (Term.index b)) A J) = (jin (hd (Term.index b)) A J, jsee (jin (hd (Term.index b)) A J) (s.2 14 (3 * u))) := by
          unfold jnm
          rw [if_neg hn, if_neg e8]
        rw [hM]
        have hρp : ρ (s.2 14 (3 * u)) = none := by
          cases e : ρ (s.2 14 (3 * u)) with
          | none => rfl
          | some z => exact absurd hSp (h.2.2.2.2.2.2 _ (by rw [e]; intro c; cases c)).2
        refine ⟨by rw [e10]; decide, hρp, fun q => ?_, fun q => ?_⟩
        · refine MP_0d st hnd h.2.2.2.1 hKJ hdn (Nat.le_refl 1) (JX.rf qK) (by omega) (k_const qK).1.1 ?_
          unfold jsee
          rw [if_pos (by omega)]
          exact (k_const qK).1.2
        · refine MP_0d st hnd h.2.2.2.1 hKJ hdn (Nat.le_refl 1) (JX.rf qK) (by omega) a1 ?_
          unfold jsee
          rw [if_neg (by omega)]
          exact a2
    · have hM : jnm (s.2 9) (s.2 11) (s.2 14) (kks s) u b (jin (hd (Term.index b)) A J) = (jsr (jin (hd (Term.index b)) A J) (hd (Term.index b)) 1, .null) := by
        unfold jnm
        rw [if_pos hn]
        rfl
      rw [hM]
      have qK' : KJs (ua s0 21 (hd (Term.index b)) 1) := qK
      exact MP_rd st hnd h.2.2.2.1 hKJ hSl hbm (by simp) ⟨by omega, by omega⟩ hdn (Nat.le_refl 1) (JX.rf qK') (by show s0.1 3 ≤ s0.1 3 + 20; omega) (k_const qK').1.1 (k_const qK').1.2
/-- the first part of any -/
theorem ST_ad (hn : JSPd iv L h0 Ad Tn n) (h : CTXd Tn ρ n s t a A J S) {b : Nat} {x : Term} {w : SM} {a' : Int} {A' : Option Term} {J' : JT} {d : Nat} {F : Int → SM → Prop} (hT1 : ATj s (.add (.index b) x)) (hsub : ∃ r, fl t = fl (.add (.index b) x) ++ r) (hhd : (b : Int) = hd t) (hdp : dpt x ≤ n) (hst : SJd s t a A S [] J' w) (ha : aK w a' A') (hd1 : 3 * n + 45 ≤ d)
    (hgo : ∀ r v, SJd s t a A S ([] ++ fl x) (jds s x A' J').1 v → kext w v → vks v r → kts v r = (jds s x A' J').2 → F r v) : cj iv L h0 Ad Tn ρ n d 88 [vr 307, vi (hd x), vi a'] w (qi F) := by
  obtain ⟨r0, hr0⟩ := hsub
  obtain ⟨t1, t2⟩ := HTp h (y := x) (dn := []) (fun v hv => by rw [hr0]; exact List.mem_append_left _ (List.mem_append_right _ hv)) (fun v hv => by cases hv)
  refine ST_1d hn h.2.1 h.2.2.1 hst hT1 ⟨r0, hr0⟩ hhd (fun x q => by cases q) (fun _ q => absurd q (by show ¬ ((0 : Int) = 1); decide)) hdp ?_ ha hd1 t1 t2 hgo
  have h5 := h.2.2.2.2.1
  have := len1 (b := b) (x := x)
  rw [hr0, List.length_append] at h5
  push_cast at h5 ⊢
  simp only [List.length_nil]
  omega
theorem jsp_toldd (hn : JSPd iv L h0 Ad Tn n) (h : CTXd Tn ρ n s t a A J S) (e : s.2 9 (hd t) = 15) : cj iv L h0 Ad Tn ρ (n + 1) (3 * (n + 1) + 45) 88 [vr 307, vi (hd t), vi a] s (qi (POSTd s t A J S)) := by
  obtain ⟨hA, hf, hnd, htd, hDP⟩ := id h.2.1
  obtain ⟨hKJ, hBO, hJR, hSl⟩ := id h.2.2.1
  have hna : na t = 1 := by rw [hf, e]; rfl
  obtain ⟨b, x, rfl⟩ := AT_1 hA hna
  have hbm := hd_mem _ hA
  have hb := (AT_mem _ hA _ hbm).1
  have hdx : dpt x ≤ n := by have := h.1; have e : dpt (Term.add (Term.index b) x) = max 1 (dpt x + 1) := rfl; omega
  have htt := htd _ hbm (Or.inr e)
  have e' : s.2 9 (b : Int) = 15 := e
  refine by_maked (M := ((jds s x (some (kks s (s.2 11 b))) (jin (hd (Term.add (Term.index b) x)) A J)).1, kks s (s.2 11 b))) h ?_ (fun s0 st => ?_)
  · show jen (s.2 9 b) b A _ = _
    rw [if_neg (by omega), if_pos e']
    rfl
  · obtain ⟨q9, q10, q11, q12, q13, q14, q2, qK, qx⟩ := ST_samed st
    have hv : vks s (s.2 11 (hd (Term.add (Term.index b) x))) := Or.inl htt
    refine dmk_11 (HTm h) (by rw [q9]; exact e) ?_
    rw [q14, (kid1 hA).1, q11]
    refine ST_ad hn h hA ⟨[], by simp⟩ rfl hdx st (A' := some (kks s (s.2 11 b))) ⟨kext_vk qx hv, by rw [kext_kt qx hKJ hv]; exact (kks_told htt).symm⟩ (by omega) (fun r v st1 hx1 hv1 hk1 => ?_)
    obtain ⟨r9, r10, r11, r12, r13, r14, r2, rK, rx⟩ := ST_samed st1
    rw [r11]
    exact MP_0d st1 hnd h.2.2.2.1 hKJ dn1 (by rw [len1]; simp; omega) (JX.rf rK) (by omega) (kext_vk rx hv) (by rw [kext_kt rx hKJ hv]; exact (kks_told htt).symm)
theorem jsp_halfd (hn : JSPd iv L h0 Ad Tn n) (h : CTXd Tn ρ n s t a A J S) (e : s.2 9 (hd t) = 13 ∨ s.2 9 (hd t) = 14) : cj iv L h0 Ad Tn ρ (n + 1) (3 * (n + 1) + 45) 88 [vr 307, vi (hd t), vi a] s (qi (POSTd s t A J S)) := by
  obtain ⟨hA, hf, hnd, htd, hDP⟩ := id h.2.1
  obtain ⟨hKJ, hBO, hJR, hSl⟩ := id h.2.2.1
  have hna : na t = 1 := by rw [hf]; rcases e with e | e <;> rw [e] <;> rfl
  obtain ⟨b, x, rfl⟩ := AT_1 hA hna
  have hbm := hd_mem _ hA
  have hb := (AT_mem _ hA _ hbm).1
  have hdx : dpt x ≤ n := by have := h.1; have e : dpt (Term.add (Term.index b) x) = max 1 (dpt x + 1) := rfl; omega
  have e' : s.2 9 (b : Int) = 13 ∨ s.2 9 (b : Int) = 14 := e
  have hxm := hd_mem x hA.2.1
  have hxt : hd x ∈ fl (Term.add (Term.index b) x) := List.mem_append_right _ hxm
  have hp := (AT_mem _ hA _ hxt).1
  have hpb : hd x ≠ hd (Term.add (Term.index b) x) := fun q => (List.nodup_append.mp hnd).2.2 _ (List.mem_singleton.mpr rfl) _ hxm q.symm
  refine by_maked (M := jhf (jds s x) (hd x) (s.2 9 b) (jin (hd (Term.add (Term.index b) x)) A J)) h ?_ (fun s0 st => ?_)
  · show jen (s.2 9 b) b A _ = _
    rw [if_neg (by omega), if_neg (by omega)]
    rfl
  · obtain ⟨q9, q10, q11, q12, q13, q14, q2, qK, qx⟩ := ST_samed st
    refine dmk_10 (HTm h) (by rw [q9]; omega) (D94 (HTm h) (by rw [q9]; omega) ?_)
    rw [q14, (kid1 hA).1]
    refine ST_ad hn h hA ⟨[], by simp⟩ rfl hdx st (A' := none) rfl (by omega) (fun r v st1 hx1 hv1 hk1 => ?_)
    obtain ⟨r9, r10, r11, r12, r13, r14, r2, rK, rx⟩ := ST_samed st1
    have rl := hv1.lt rK.1.1.2 rK.2.1
    have rb := st1.2.2.2.2
    have h5 := h.2.2.2.2.1
    rw [len1] at h5
    rw [List.nil_append] at rb
    have hst0 := st1
    rw [r9]
    generalize hj : jds s x none (jin (hd (Term.add (Term.index b) x)) A J) = jj at *
    have fin : ∀ (m : Term) (J2 : JT) (r2 : Int) (v2 : SM), SJd s (Term.add (Term.index b) x) a A S ([] ++ fl x) J2 v2 → v2.1 3 ≤ v.1 3 → jhf (jds s x) (hd x) (s.2 9 b) (jin (hd (Term.add (Term.index b) x)) A J) = (J2, m) → vks v2 r2 → kts v2 r2 = m → MPOSTd s (Term.add (Term.index b) x) A (jhf (jds s x) (hd x) (s.2 9 b) (jin (hd (Term.add (Term.index b) x)) A J)) S r2 v2 := fun m J2 r2 v2 st2 hb2 hM hv2 hk2 => by
      rw [hM]
      exact MP_0d st2 hnd h.2.2.2.1 hKJ dn1 (by rw [len1]; simp; omega) (JX.rf (ST_samed st2).2.2.2.2.2.2.2.1) (by omega) hv2 hk2
    have other : ∀ w', (v.2 21 (hd x) = 0 ∧ w' = ua v 21 (hd x) 3) ∨ (v.2 21 (hd x) ≠ 0 ∧ (w' = v ∨ w' = ua v 21 (hd x) (v.2 21 (hd x)))) → kts v r ≠ .null → (∀ p q, kts v r ≠ .mul p q) → MPOSTd s (Term.add (Term.index b) x) A (jhf (jds s x) (hd x) (s.2 9 b) (jin (hd (Term.add (Term.index b) x)) A J)) S 0 w' := fun w' hw hn0 hnm => by
      obtain ⟨st2, vx⟩ := ST_nd (z := 3) hst0 hxm hxt hpb ⟨by omega, by omega⟩ hw
      refine fin .null _ 0 w' st2 (by rcases hw with ⟨-, rfl⟩ | ⟨-, rfl | rfl⟩ <;> exact Int.le_refl _) ?_ (k_const (ST_samed st2).2.2.2.2.2.2.2.1).1.1 (k_const (ST_samed st2).2.2.2.2.2.2.2.1).1.2
      unfold jhf
      rw [hj]
      rw [hk1] at hn0 hnm
      cases h2 : jj.2 with
      | null => exact absurd h2 hn0
      | mul p q => exact absurd h2 (hnm p q)
      | _ => rfl
    refine ⟨by rw [q9], by rw [r14, (kid1 hA).1]; exact HTq h hxt, by omega, ?_⟩
    rw [r14, (kid1 hA).1]
    rcases kt_cases rK hv1 with ⟨k4, kr, kk⟩ | ⟨k4, kk⟩ | ⟨k4, kk⟩ | ⟨k4, kk, va, vb⟩ | ⟨k4, kk, va, vb⟩
    · have hM : jhf (jds s x) (hd x) (s.2 9 b) (jin (hd (Term.add (Term.index b) x)) A J) = (jj.1, .null) := by
        unfold jhf
        rw [hj]
        rw [hk1] at kk
        rw [kk]
      have g := fin .null jj.1 0 v hst0 (Int.le_refl _) hM (k_const rK).1.1 (k_const rK).1.2
      exact ⟨fun _ => ⟨fun _ => g, fun _ => ⟨fun _ => g, fun q => absurd k4 q⟩⟩, fun q => by omega⟩
    · exact ⟨fun _ => ⟨fun q => other _ (Or.inr ⟨q, Or.inl rfl⟩) (by rw [kk]; intro c; cases c) (by rw [kk]; intro p q c; cases c), fun q => ⟨fun q0 => by omega, fun _ => other _ (Or.inl ⟨q, rfl⟩) (by rw [kk]; intro c; cases c) (by rw [kk]; intro p q c; cases c)⟩⟩, fun q => by omega⟩
    · exact ⟨fun _ => ⟨fun q => other _ (Or.inr ⟨q, Or.inl rfl⟩) (by rw [kk]; intro c; cases c) (by rw [kk]; intro p q c; cases c), fun q => ⟨fun q0 => by omega, fun _ => other _ (Or.inl ⟨q, rfl⟩) (by rw [kk]; intro c; cases c) (by rw [kk]; intro p q c; cases c)⟩⟩, fun q => by omega⟩
    · exact ⟨fun _ => ⟨fun q => other _ (Or.inr ⟨q, Or.inl rfl⟩) (by rw [kk]; intro c; cases c) (by rw [kk]; intro p q c; cases c), fun q => ⟨fun q0 => by omega, fun _ => other _ (Or.inl ⟨q, rfl⟩) (by rw [kk]; intro c; cases c) (by rw [kk]; intro p q c; cases c)⟩⟩, fun q => by omega⟩
    · have hM : jhf (jds s x) (hd x) (s.2 9 b) (jin (hd (Term.add (Term.index b) x)) A J) = (jj.1, if s.2 9 b = 13 then kts v (v.2 5 r) else kts v (v.2 6 r)) := by
        unfold jhf
        rw [hj]
        rw [hk1] at kk
        rw [kk]
      refine ⟨fun q => absurd k4 q, fun _ => ⟨fun q => ?_, fun q => ?_⟩⟩
      · exact fin _ jj.1 _ v hst0 (Int.le_refl _) hM vb (by rw [if_neg (show ¬ s.2 9 (b : Int) = 13 from q)])
      · exact fin _ jj.1 _ v hst0 (Int.le_refl _) hM va (by rw [if_pos (show s.2 9 (b : Int) = 13 from q)])
end

section
variable {iv : List (Int × Int)} {L : Nat} {h0 : MH} {Ad : Int → Nat} {Tn : Int → Prop} {ρ : Int → Option Int} {k : Nat} {n : Nat} {s : SM} {t : Term} {a : Int} {A : Option Term} {J : JT} {S : Int → Prop}
/-- the second part -/
theorem ST_bd (hn : JSPd iv L h0 Ad Tn n) (h : CTXd Tn ρ n s t a A J S) {b : Nat} {x y : Term} {w : SM} {a' : Int} {A' : Option Term} {J' : JT} {d : Nat} {F : Int → SM → Prop} (hT1 : ATj s (.add (.add (.index b) x) y)) (hsub : ∃ r, fl t = fl (.add (.add (.index b) x) y) ++ r) (hhd : (b : Int) = hd t) (hdp : dpt y ≤ n) (hst : SJd s t a A S ([] ++ fl x) J' w) (ha : aK w a' A') (hd1 : 3 * n + 45 ≤ d)
    (hgo : ∀ r v, SJd s t a A S (([] ++ fl x) ++ fl y) (jds s y A' J').1 v → kext w v → vks v r → kts v r = (jds s y A' J').2 → F r v) : cj iv L h0 Ad Tn ρ n d 88 [vr 307, vi (hd y), vi a'] w (qi F) := by
  obtain ⟨r0, hr0⟩ := hsub
  obtain ⟨t1, t2⟩ := HTp h (y := y) (dn := [] ++ fl x) (fun v hv => by rw [hr0]; exact List.mem_append_left _ (List.mem_append_right _ hv)) (fun v hv => by rw [hr0]; exact List.mem_append_left _ (List.mem_append_left _ (List.mem_append_right _ hv)))
  refine ST_1d hn h.2.1 h.2.2.1 hst hT1 ⟨r0, hr0⟩ hhd (fun v q => List.mem_append_right _ q) (fun _ _ => ?_) hdp ?_ ha hd1 t1 t2 hgo
  · have := (kid1 hT1.1).1
    have e : hd (Term.add (Term.index b) x) = hd t := hhd
    rw [e] at this
    rw [this]
    exact hd_mem x hT1.1.2.1
  · have h5 := h.2.2.2.2.1
    have := len2 (b := b) (x := x) (y := y)
    rw [hr0, List.length_append] at h5
    push_cast at h5 ⊢
    simp only [List.nil_append]
    omega
/-- the third part -/
theorem ST_cd (hn : JSPd iv L h0 Ad Tn n) (h : CTXd Tn ρ n s t a A J S) {b : Nat} {x y z : Term} {w : SM} {a' : Int} {A' : Option Term} {J' : JT} {d : Nat} {F : Int → SM → Prop} (hT1 : ATj s (.add (.add (.add (.index b) x) y) z)) (hsub : ∃ r, fl t = fl (.add (.add (.add (.index b) x) y) z) ++ r) (hhd : (b : Int) = hd t) (hdp : dpt z ≤ n) (hst : SJd s t a A S (([] ++ fl x) ++ fl y) J' w) (ha : aK w a' A') (hd1 : 3 * n + 45 ≤ d)
    (hgo : ∀ r v, SJd s t a A S ((([] ++ fl x) ++ fl y) ++ fl z) (jds s z A' J').1 v → kext w v → vks v r → kts v r = (jds s z A' J').2 → F r v) : cj iv L h0 Ad Tn ρ n d 88 [vr 307, vi (hd z), vi a'] w (qi F) := by
  obtain ⟨r0, hr0⟩ := hsub
  obtain ⟨t1, t2⟩ := HTp h (y := z) (dn := ([] ++ fl x) ++ fl y) (fun v hv => by rw [hr0]; exact List.mem_append_left _ (List.mem_append_right _ hv)) (fun v hv => by
    rw [hr0]
    rcases List.mem_append.mp hv with q | q
    · exact List.mem_append_left _ (List.mem_append_left _ (List.mem_append_left _ (List.mem_append_right _ q)))
    · exact List.mem_append_left _ (List.mem_append_left _ (List.mem_append_right _ q)))
  refine ST_1d hn h.2.1 h.2.2.1 hst hT1 ⟨r0, hr0⟩ hhd (fun v q => ?_) (fun _ q => absurd q (by show ¬ ((0 : Int) + 1 + 1 = 1); decide)) hdp ?_ ha hd1 t1 t2 hgo
  · rcases List.mem_append.mp q with q | q
    · exact List.mem_append_left _ (List.mem_append_right _ q)
    · exact List.mem_append_right _ q
  · have h5 := h.2.2.2.2.1
    have := len3 (b := b) (x := x) (y := y) (z := z)
    rw [hr0, List.length_append] at h5
    push_cast at h5 ⊢
    simp only [List.nil_append, List.length_append]
    omega
theorem jsp_reckd (hn : JSPd iv L h0 Ad Tn n) (h : CTXd Tn ρ n s t a A J S) (e : s.2 9 (hd t) = 4 ∨ s.2 9 (hd t) = 5 ∨ s.2 9 (hd t) = 6 ∨ s.2 9 (hd t) = 7) : cj iv L h0 Ad Tn ρ (n + 1) (3 * (n + 1) + 45) 88 [vr 307, vi (hd t), vi a] s (qi (POSTd s t A J S)) := by
  obtain ⟨hA, hf, hnd, htd, hDP⟩ := id h.2.1
  obtain ⟨hKJ, hBO, hJR, hSl⟩ := id h.2.2.1
  have hna : na t = 2 := by rw [hf]; rcases e with e | e | e | e <;> rw [e] <;> rfl
  obtain ⟨b, x, y, rfl⟩ := AT_2 hA hna
  have hbm := hd_mem _ hA
  have hb := (AT_mem _ hA _ hbm).1
  obtain ⟨hdx, hdy⟩ := dpt2 h.1
  have e' : s.2 9 (b : Int) = 4 ∨ s.2 9 (b : Int) = 5 ∨ s.2 9 (b : Int) = 6 ∨ s.2 9 (b : Int) = 7 := e
  refine by_maked (M := ((jds s y (some .result) (jds s x (some .result) (jin (hd (Term.add (Term.add (Term.index b) x) y)) A J)).1).1, if s.2 9 b = 7 then .thrown else .result)) h ?_ (fun s0 st => ?_)
  · show jen (s.2 9 b) b A _ = _
    rw [if_neg (by omega), if_neg (by omega), if_neg (by omega)]
    rfl
  · obtain ⟨q9, q10, q11, q12, q13, q14, q2, qK, qx⟩ := ST_samed st
    refine dmk_4 (HTm h) (by rw [q9]; exact e) ?_
    rw [q14, (kid2 hA).1]
    refine ST_ad hn h hA.1 ⟨_, rfl⟩ rfl hdx st (A' := some .result) (k_const qK).2.1 (by omega) (fun r v st1 hx1 hv1 hk1 => ?_)
    obtain ⟨r9, r10, r11, r12, r13, r14, r2, rK, rx⟩ := ST_samed st1
    refine ⟨by rw [r9, q9], ?_⟩
    rw [r14, (kid2 hA).2]
    refine ST_bd hn h hA ⟨[], by simp⟩ rfl hdy st1 (A' := some .result) (k_const rK).2.1 (by omega) (fun r' u st2 hx2 hv2 hk2 => ?_)
    obtain ⟨u9, u10, u11, u12, u13, u14, u2, uK, ux⟩ := ST_samed st2
    rw [u9]
    refine ⟨fun q => ?_, fun q => ?_⟩
    · rw [if_neg (show ¬ s.2 9 (b : Int) = 7 from q)]
      exact MP_0d st2 hnd h.2.2.2.1 hKJ dn2 (by rw [len2]; simp; omega) (JX.rf uK) (by omega) (k_const uK).2.1.1 (k_const uK).2.1.2
    · rw [if_pos (show s.2 9 (b : Int) = 7 from q)]
      exact MP_0d st2 hnd h.2.2.2.1 hKJ dn2 (by rw [len2]; simp; omega) (JX.rf uK) (by omega) (k_const uK).2.2.1 (k_const uK).2.2.2
theorem jsp_letd (hn : JSPd iv L h0 Ad Tn n) (h : CTXd Tn ρ n s t a A J S) (e : s.2 9 (hd t) = 10) : cj iv L h0 Ad Tn ρ (n + 1) (3 * (n + 1) + 45) 88 [vr 307, vi (hd t), vi a] s (qi (POSTd s t A J S)) := by
  obtain ⟨hA, hf, hnd, htd, hDP⟩ := id h.2.1
  obtain ⟨hKJ, hBO, hJR, hSl⟩ := id h.2.2.1
  have hna : na t = 2 := by rw [hf, e]; rfl
  obtain ⟨b, x, y, rfl⟩ := AT_2 hA hna
  have hbm := hd_mem _ hA
  have hb := (AT_mem _ hA _ hbm).1
  obtain ⟨hdx, hdy⟩ := dpt2 h.1
  have e' : s.2 9 (b : Int) = 10 := e
  refine by_maked (M := jds s y A (jds s x none (jin (hd (Term.add (Term.add (Term.index b) x) y)) A J)).1) h ?_ (fun s0 st => ?_)
  · show jen (s.2 9 b) b A _ = _
    rw [if_neg (by omega), if_pos e']
    rfl
  · obtain ⟨q9, q10, q11, q12, q13, q14, q2, qK, qx⟩ := ST_samed st
    refine dmk_7 (HTm h) (by rw [q9]; exact e) ?_
    rw [q14, (kid2 hA).1]
    refine ST_ad hn h hA.1 ⟨_, rfl⟩ rfl hdx st (A' := none) rfl (by omega) (fun r v st1 hx1 hv1 hk1 => ?_)
    obtain ⟨r9, r10, r11, r12, r13, r14, r2, rK, rx⟩ := ST_samed st1
    refine ⟨by rw [r9, q9], ?_⟩
    rw [r14, (kid2 hA).2]
    refine ST_bd hn h hA ⟨[], by simp⟩ rfl hdy st1 (A' := A) (aK_x rx hKJ h.2.2.2.1) (by omega) (fun r' u st2 hx2 hv2 hk2 => ?_)
    obtain ⟨u9, u10, u11, u12, u13, u14, u2, uK, ux⟩ := ST_samed st2
    exact MP_0d st2 hnd h.2.2.2.1 hKJ dn2 (by rw [len2]; simp; omega) (JX.rf uK) (by omega) hv2 hk2
theorem jsp_used (hn : JSPd iv L h0 Ad Tn n) (h : CTXd Tn ρ n s t a A J S) (e : s.2 9 (hd t) = 9) : cj iv L h0 Ad Tn ρ (n + 1) (3 * (n + 1) + 45) 88 [vr 307, vi (hd t), vi a] s (qi (POSTd s t A J S)) := by
  obtain ⟨hA, hf, hnd, htd, hDP⟩ := id h.2.1
  obtain ⟨hKJ, hBO, hJR, hSl⟩ := id h.2.2.1
  have hna : na t = 2 := by rw [hf, e]; rfl
  obtain ⟨b, x, y, rfl⟩ := AT_2 hA hna
  have hbm := hd_mem _ hA
  have hb := (AT_mem _ hA _ hbm).1
  obtain ⟨hdx, hdy⟩ := dpt2 h.1
  have e' : s.2 9 (b : Int) = 9 := e
  have hxm := hd_mem x hA.1.2.1
  have hxt : hd x ∈ fl (Term.add (Term.add (Term.index b) x) y) := List.mem_append_left _ (List.mem_append_right _ hxm)
  have hp := (AT_mem _ hA _ hxt).1
  have hnd1 := (List.nodup_append.mp hnd).1
  have hpb : hd x ≠ hd (Term.add (Term.add (Term.index b) x) y) := fun q => (List.nodup_append.mp hnd1).2.2 _ (List.mem_singleton.mpr rfl) _ hxm q.symm
  refine by_maked (M := jus (jds s x) (jds s y) (hd x) (jin (hd (Term.add (Term.add (Term.index b) x) y)) A J)) h ?_ (fun s0 st => ?_)
  · show jen (s.2 9 b) b A _ = _
    rw [if_pos e']
    rfl
  · obtain ⟨q9, q10, q11, q12, q13, q14, q2, qK, qx⟩ := ST_samed st
    refine dmk_6 (HTm h) (by rw [q9]; exact e) (D91 (HTm h) (by rw [q9]; exact e) ?_)
    rw [q14, (kid2 hA).1]
    refine ST_ad hn h hA.1 ⟨_, rfl⟩ rfl hdx st (A' := none) rfl (by omega) (fun r v st1 hx1 hv1 hk1 => ?_)
    obtain ⟨r9, r10, r11, r12, r13, r14, r2, rK, rx⟩ := ST_samed st1
    have rl := hv1.lt rK.1.1.2 rK.2.1
    generalize hj : jds s x none (jin (hd (Term.add (Term.add (Term.index b) x) y)) A J) = jj at *
    -- the second part asked for UNKNOWN
    have unk : ∀ (J2 : JT) (v2 : SM), SJd s (Term.add (Term.add (Term.index b) x) y) a A S ([] ++ fl x) J2 v2 → jus (jds s x) (jds s y) (hd x) (jin (hd (Term.add (Term.add (Term.index b) x) y)) A J) = ((jds s y (some .null) J2).1, .null) → cj iv L h0 Ad Tn ρ n (3 * n + 45) 88 [vr 307, vi (hd y), vi 0] v2 (qi fun _ w => MPOSTd s (Term.add (Term.add (Term.index b) x) y) A (jus (jds s x) (jds s y) (hd x) (jin (hd (Term.add (Term.add (Term.index b) x) y)) A J)) S 0 w) := fun J2 v2 st2 hM => by
      refine ST_bd hn h hA ⟨[], by simp⟩ rfl hdy st2 (A' := some .null) (k_const (ST_samed st2).2.2.2.2.2.2.2.1).1 (Nat.le_refl _) (fun r' u st3 hx3 hv3 hk3 => ?_)
      obtain ⟨u9, u10, u11, u12, u13, u14, u2, uK, ux⟩ := ST_samed st3
      rw [hM]
      exact MP_0d st3 hnd h.2.2.2.1 hKJ dn2 (by rw [len2]; simp; omega) (JX.rf uK) (by omega) (k_const uK).1.1 (k_const uK).1.2
    have other : ∀ w', (v.2 21 (hd x) = 0 ∧ w' = ua v 21 (hd x) 2) ∨ (v.2 21 (hd x) ≠ 0 ∧ (w' = v ∨ w' = ua v 21 (hd x) (v.2 21 (hd x)))) → kts v r ≠ .null → (∀ p q, kts v r ≠ .add p q) → cj iv L h0 Ad Tn ρ n (3 * n + 45) 88 [vr 307, vi (hd y), vi 0] w' (qi fun _ w => MPOSTd s (Term.add (Term.add (Term.index b) x) y) A (jus (jds s x) (jds s y) (hd x) (jin (hd (Term.add (Term.add (Term.index b) x) y)) A J)) S 0 w) := fun w' hw hn0 hnm => by
      obtain ⟨st2, vx⟩ := ST_nd (z := 2) st1 hxm hxt hpb ⟨by omega, by omega⟩ hw
      refine unk _ w' st2 ?_
      unfold jus
      rw [hj]
      rw [hk1] at hn0 hnm
      cases h2 : jj.2 with
      | null => exact absurd h2 hn0
      | add p q => exact absurd h2 (hnm p q)
      | _ => rfl
    have rb := st1.2.2.2.2
    have h5 := h.2.2.2.2.1
    rw [len2] at h5
    rw [List.nil_append] at rb
    have hM0 := (k_const rK).1.2
    refine ⟨by rw [r9, q9], by rw [r14, (kid2 hA).1]; exact HTq h hxt, by omega, ?_⟩
    rw [r14, (kid2 hA).1, (kid2 hA).2]
    rcases kt_cases rK hv1 with ⟨k4, kr, kk⟩ | ⟨k4, kk⟩ | ⟨k4, kk⟩ | ⟨k4, kk, va, vb⟩ | ⟨k4, kk, va, vb⟩
    · have g := unk jj.1 v st1 (by
        unfold jus
        rw [hj]
        rw [hk1] at kk
        rw [kk])
      exact ⟨fun _ => ⟨fun _ => g, fun _ => ⟨fun _ => g, fun q => absurd k4 q⟩⟩, fun q => by omega⟩
    · exact ⟨fun _ => ⟨fun q => other v (Or.inr ⟨q, Or.inl rfl⟩) (by rw [kk]; intro c; cases c) (by rw [kk]; intro p q c; cases c), fun q => ⟨fun q0 => by omega, fun _ => other _ (Or.inl ⟨q, rfl⟩) (by rw [kk]; intro c; cases c) (by rw [kk]; intro p q c; cases c)⟩⟩, fun q => by omega⟩
    · exact ⟨fun _ => ⟨fun q => other v (Or.inr ⟨q, Or.inl rfl⟩) (by rw [kk]; intro c; cases c) (by rw [kk]; intro p q c; cases c), fun q => ⟨fun q0 => by omega, fun _ => other _ (Or.inl ⟨q, rfl⟩) (by rw [kk]; intro c; cases c) (by rw [kk]; intro p q c; cases c)⟩⟩, fun q => by omega⟩
    · refine ⟨fun q => absurd k4 q, fun _ => ST_bd hn h hA ⟨[], by simp⟩ rfl hdy st1 (A' := some (kts v (v.2 5 r))) ⟨va, rfl⟩ (Nat.le_refl _) (fun r' u st2 hx2 hv2 hk2 => ?_)⟩
      obtain ⟨u9, u10, u11, u12, u13, u14, u2, uK, ux⟩ := ST_samed st2
      have hM : jus (jds s x) (jds s y) (hd x) (jin (hd (Term.add (Term.add (Term.index b) x) y)) A J) = ((jds s y (some (kts v (v.2 5 r))) jj.1).1, kts v (v.2 6 r)) := by
        unfold jus
        rw [hj]
        rw [hk1] at kk
        rw [kk]
      rw [hM, (hx2.2.2 r rl.2).2.2.1]
      exact MP_0d st2 hnd h.2.2.2.1 hKJ dn2 (by rw [len2]; simp; omega) (JX.rf uK) (by omega) (kext_vk hx2 vb) (kext_kt hx2 rK vb)
    · exact ⟨fun _ => ⟨fun q => other v (Or.inr ⟨q, Or.inl rfl⟩) (by rw [kk]; intro c; cases c) (by rw [kk]; intro p q c; cases c), fun q => ⟨fun q0 => by omega, fun _ => other _ (Or.inl ⟨q, rfl⟩) (by rw [kk]; intro c; cases c) (by rw [kk]; intro p q c; cases c)⟩⟩, fun q => by omega⟩
end
end
section
/-! The desk judges as the function tells: DEF, PAIR, PICK; then every tree. -/
section
variable {iv : List (Int × Int)} {L : Nat} {h0 : MH} {Ad : Int → Nat} {Tn : Int → Prop} {ρ : Int → Option Int} {k : Nat} {n : Nat} {s : SM} {t : Term} {a : Int} {A : Option Term} {J : JT} {S : Int → Prop}
theorem jsr_0 {J : JT} {b : Int} (h : J.2.2 b = 0) : jsr J b 0 = J := by
  refine Prod.ext rfl (Prod.ext rfl (funext fun x => ?_))
  show (if x = b then (0 : Int) else J.2.2 x) = J.2.2 x
  split
  · rename_i e; rw [e, h]
  · rfl
theorem jsp_defd (hn : JSPd iv L h0 Ad Tn n) (h : CTXd Tn ρ n s t a A J S) (e : s.2 9 (hd t) = 8) : cj iv L h0 Ad Tn ρ (n + 1) (3 * (n + 1) + 45) 88 [vr 307, vi (hd t), vi a] s (qi (POSTd s t A J S)) := by
  obtain ⟨hA, hf, hnd, htd, hDP⟩ := id h.2.1
  obtain ⟨hKJ, hBO, hJR, hSl⟩ := id h.2.2.1
  have hna : na t = 1 := by rw [hf, e]; rfl
  obtain ⟨b, x, rfl⟩ := AT_1 hA hna
  have hbm := hd_mem _ hA
  have hb := (AT_mem _ hA _ hbm).1
  have hdx : dpt x ≤ n := by have := h.1; have e : dpt (Term.add (Term.index b) x) = max 1 (dpt x + 1) := rfl; omega
  have htt := htd _ hbm (Or.inl e)
  have e' : s.2 9 (b : Int) = 8 := e
  have hbx : hd (Term.add (Term.index b) x) ∉ [] ++ fl x := fun q => (List.nodup_append.mp hnd).2.2 _ (List.mem_singleton.mpr rfl) _ q rfl
  have h5 := h.2.2.2.2.1
  rw [len1] at h5
  refine by_maked (M := jdf (jds s x) b (kks s (s.2 11 b)) A (jin (hd (Term.add (Term.index b) x)) A J)) h ?_ (fun s0 st => ?_)
  · show jen (s.2 9 b) b A _ = _
    rw [if_pos e']
    rfl
  · obtain ⟨q9, q10, q11, q12, q13, q14, q2, qK, qx⟩ := ST_samed st
    have hv : vks s (s.2 11 (hd (Term.add (Term.index b) x))) := Or.inl htt
    have hk0 : kks s (s.2 11 b) = kts s (s.2 11 (hd (Term.add (Term.index b) x))) := kks_told htt
    refine dmk_5 (HTm h) (by rw [q9]; exact e) (D90 (HTm h) (HTr h) (by rw [q9]; exact e) ?_)
    rw [q14, (kid1 hA).1]
    have plain : ∀ (a' : Int) (A' : Option Term), aK s0 a' A' → jdf (jds s x) b (kks s (s.2 11 b)) A (jin (hd (Term.add (Term.index b) x)) A J) = ((jds s x A' (jin (hd (Term.add (Term.index b) x)) A J)).1, kmk 3 (kks s (s.2 11 b)) (jds s x A' (jin (hd (Term.add (Term.index b) x)) A J)).2) →
        cj iv L h0 Ad Tn ρ n (3 * n + 45) 88 [vr 307, vi (hd x), vi a'] s0 (qi fun r v => cj iv L h0 Ad Tn ρ n (3 * n + 45) 65 [vr 307, vi 3, vi (s0.2 11 (hd (Term.add (Term.index b) x))), vi r] v (qi fun r2 w => MPOSTd s (Term.add (Term.index b) x) A (jdf (jds s x) b (kks s (s.2 11 b)) A (jin (hd (Term.add (Term.index b) x)) A J)) S r2 w)) := fun a' A' ha' hM => by
      refine ST_ad hn h hA ⟨[], by simp⟩ rfl hdx st ha' (Nat.le_refl _) (fun r v st1 hx1 hv1 hk1 => ?_)
      obtain ⟨r9, r10, r11, r12, r13, r14, r2, rK, rx⟩ := ST_samed st1
      have rb := st1.2.2.2.2
      rw [List.nil_append] at rb
      rw [q11]
      refine cjm (makeKind_okd rK (Or.inl rfl) (kext_vk rx hv) hv1 (by omega)) (by omega) ?_
      rintro r2 w ⟨w1, w2, w3, w4, w5, w6⟩
      rw [hM]
      exact MP_0d st1 hnd h.2.2.2.1 hKJ dn1 (by rw [len1]; simp; omega) (JX.kx w1 w2 w3) (by omega) w5 (by rw [w6, kext_kt rx hKJ hv, ← hk0, hk1])
    refine ⟨fun ha1 => ?_, fun ha1 => ?_⟩
    · cases A with
      | none => exact plain _ none rfl rfl
      | some T =>
        exfalso
        have := h.2.2.2.1.1.lt hKJ.1.1.2 hKJ.2.1
        omega
    · cases A with
      | none => exact absurd h.2.2.2.1 ha1
      | some T =>
        obtain ⟨av, ak⟩ := id h.2.2.2.1
        have av0 := kext_vk qx av
        have al := av0.lt qK.1.1.2 qK.2.1
        have eT : kts s0 a = T := (kext_kt qx hKJ av).trans ak
        have hM0 := (k_const qK).1.2
        have h03 := st.2.2.2.2
        simp only [List.length_nil] at h03
        refine ⟨by omega, fun k3 => ?_, fun k3 => ?_⟩
        · rcases kt_cases qK av0 with ⟨k4, kr, kk⟩ | ⟨k4, kk⟩ | ⟨k4, kk⟩ | ⟨k4, kk, va, vb⟩ | ⟨k4, kk, va, vb⟩
          · rw [eT] at kk
            subst kk
            exact ⟨fun q => absurd kr q, fun _ => plain _ (some .null) (k_const qK).1 rfl⟩
          · have hr0 : a ≠ 0 := fun q => by rw [q, hM0] at kk; cases kk
            rw [eT] at kk
            subst kk
            exact ⟨fun _ => plain _ none rfl rfl, fun q => absurd q hr0⟩
          · have hr0 : a ≠ 0 := fun q => by rw [q, hM0] at kk; cases kk
            rw [eT] at kk
            subst kk
            exact ⟨fun _ => plain _ none rfl rfl, fun q => absurd q hr0⟩
          · exact absurd k4 k3
          · have hr0 : a ≠ 0 := fun q => by rw [q, hM0] at kk; cases kk
            rw [eT] at kk
            subst kk
            exact ⟨fun _ => plain _ none rfl rfl, fun q => absurd q hr0⟩
        · rcases kt_cases qK av0 with ⟨k4, kr, kk⟩ | ⟨k4, kk⟩ | ⟨k4, kk⟩ | ⟨k4, kk, va, vb⟩ | ⟨k4, kk, va, vb⟩
          · omega
          · omega
          · omega
          · have hr0 : a ≠ 0 := fun q => by rw [q, hM0] at kk; cases kk
            have hT : T = .add (kts s0 (s0.2 5 a)) (kts s0 (s0.2 6 a)) := eT.symm.trans kk
            have hks : kts s0 (s0.2 11 (hd (Term.add (Term.index b) x))) = kks s (s.2 11 b) := by rw [q11, kext_kt qx hKJ hv, hk0]
            have hv0 : vks s0 (s0.2 11 (hd (Term.add (Term.index b) x))) := by rw [q11]; exact kext_vk qx hv
            refine ⟨hr0, cjm (areMeeting_okd qK (by omega) hv0 va) (by omega) ?_⟩
            rintro r22 s1 ⟨rfl, rfl⟩
            rw [hks]
            have aft : ∀ (r : Int) (w : SM), SJd s (Term.add (Term.index b) x) a (some T) S ([] ++ fl x) (jds s x (some (kts s1 (s1.2 6 a))) (jin (hd (Term.add (Term.index b) x)) (some T) J)).1 w → kext s1 w → vks w r → kts w r = (jds s x (some (kts s1 (s1.2 6 a))) (jin (hd (Term.add (Term.index b) x)) (some T) J)).2 →
                (kmt (kks s (s.2 11 b)) (kts s1 (s1.2 5 a)) = false → cj iv L h0 Ad Tn ρ n (3 * n + 45) 65 [vr 307, vi 3, vi (s1.2 11 (hd (Term.add (Term.index b) x))), vi r] (ua w 21 (hd (Term.add (Term.index b) x)) 4) (qi fun r2 u => MPOSTd s (Term.add (Term.index b) x) (some T) (jdf (jds s x) b (kks s (s.2 11 b)) (some T) (jin (hd (Term.add (Term.index b) x)) (some T) J)) S r2 u)) ∧
                (kmt (kks s (s.2 11 b)) (kts s1 (s1.2 5 a)) = true → cj iv L h0 Ad Tn ρ n (3 * n + 45) 65 [vr 307, vi 3, vi (s1.2 11 (hd (Term.add (Term.index b) x))), vi r] w (qi fun r2 u => MPOSTd s (Term.add (Term.index b) x) (some T) (jdf (jds s x) b (kks s (s.2 11 b)) (some T) (jin (hd (Term.add (Term.index b) x)) (some T) J)) S r2 u)) := fun r w st1 hx1 hv1 hk1 => by
              obtain ⟨r9, r10, r11, r12, r13, r14, r2, rK, rx⟩ := ST_samed st1
              have rb := st1.2.2.2.2
              rw [List.nil_append] at rb
              have htv : vks w (s.2 11 (hd (Term.add (Term.index b) x))) := kext_vk rx hv
              rw [q11]
              refine ⟨fun hm => ?_, fun hm => ?_⟩
              · have rK' : KJs (ua w 21 (hd (Term.add (Term.index b) x)) 4) := rK
                refine cjm (makeKind_okd rK' (Or.inl rfl) htv hv1 (by show w.1 3 < 1440; omega)) (by omega) ?_
                rintro r2 u ⟨w1, w2, w3, w4, w5, w6⟩
                have w4 : u.1 3 ≤ w.1 3 + 1 := w4
                have w6 : kts u r2 = kmk 3 (kts w (s.2 11 (hd (Term.add (Term.index b) x)))) (kts w r) := w6
                have hM : jdf (jds s x) b (kks s (s.2 11 b)) (some T) (jin (hd (Term.add (Term.index b) x)) (some T) J) = (jsr (jds s x (some (kts s1 (s1.2 6 a))) (jin (hd (Term.add (Term.index b) x)) (some T) J)).1 (hd (Term.add (Term.index b) x)) 4, kmk 3 (kks s (s.2 11 b)) (jds s x (some (kts s1 (s1.2 6 a))) (jin (hd (Term.add (Term.index b) x)) (some T) J)).2) := by
                  rw [hT]
                  unfold jdf
                  simp only [hm]
                  rfl
                rw [hM]
                exact MP_rd st1 hnd h.2.2.2.1 hKJ hSl hbm hbx ⟨by omega, by omega⟩ dn1 (by rw [len1]; simp; omega) (JX.kx w1 w2 w3) (by omega) w5 (by rw [w6, kext_kt rx hKJ hv, ← hk0, hk1])
              · refine cjm (makeKind_okd rK (Or.inl rfl) htv hv1 (by omega)) (by omega) ?_
                rintro r2 u ⟨w1, w2, w3, w4, w5, w6⟩
                have hM : jdf (jds s x) b (kks s (s.2 11 b)) (some T) (jin (hd (Term.add (Term.index b) x)) (some T) J) = ((jds s x (some (kts s1 (s1.2 6 a))) (jin (hd (Term.add (Term.index b) x)) (some T) J)).1, kmk 3 (kks s (s.2 11 b)) (jds s x (some (kts s1 (s1.2 6 a))) (jin (hd (Term.add (Term.index b) x)) (some T) J)).2) := by
                  have hj0 : jsr (jds s x (some (kts s1 (s1.2 6 a))) (jin (hd (Term.add (Term.index b) x)) (some T) J)).1 b 0 = (jds s x (some (kts s1 (s1.2 6 a))) (jin (hd (Term.add (Term.index b) x)) (some T) J)).1 := jsr_0 st1.2.2.2.1.2
                  refine Prod.ext ?_ ?_
                  · rw [← hj0]
                    rw [hT]
                    unfold jdf
                    simp only [hm]
                    rfl
                  · rw [hT]
                    rfl
                rw [hM]
                exact MP_0d st1 hnd h.2.2.2.1 hKJ dn1 (by rw [len1]; simp; omega) (JX.kx w1 w2 w3) (by omega) w5 (by rw [w6, kext_kt rx hKJ hv, ← hk0, hk1])
            cases hm : kmt (kks s (s.2 11 b)) (kts s1 (s1.2 5 a)) with
            | true =>
              refine ⟨rfl, fun q => absurd q (by decide), fun _ => ST_ad hn h hA ⟨[], by simp⟩ rfl hdx st (A' := some (kts s1 (s1.2 6 a))) ⟨vb, rfl⟩ (Nat.le_refl _) (fun r v st1 hx1 hv1 hk1 => (aft r v st1 hx1 hv1 hk1).2 hm)⟩
            | false =>
              refine ⟨rfl, fun _ => ?_, fun q => absurd rfl q⟩
              have hbn : (b : Int) ∉ fl x := hbx
              refine ST_1d (ρ := ro ρ b 4) hn h.2.1 h.2.2.1 st hA ⟨[], by simp⟩ rfl (fun x q => by cases q) (fun _ q => absurd q (by show ¬ ((0 : Int) = 1); decide)) hdx (by simp; omega) (A' := some (kts s1 (s1.2 6 a))) ⟨vb, rfl⟩ (Nat.le_refl _) (fun v hv => h.2.2.2.2.2.1 v (List.mem_append_right _ hv)) (fun v q => ?_) (fun r v st1 hx1 hv1 hk1 => (aft r v st1 hx1 hv1 hk1).1 hm)
              by_cases ev : v = (b : Int)
              · subst ev
                exact ⟨hbn, fun w => w.elim (fun w => hSl _ w hbm) (fun w => by cases w)⟩
              · unfold ro at q
                rw [if_neg ev] at q
                exact ⟨fun w => (h.2.2.2.2.2.2 v q).1 (List.mem_append_right _ w), fun w => w.elim (h.2.2.2.2.2.2 v q).2 (fun w => by cases w)⟩
          · omega
theorem jsp_paird (hn : JSPd iv L h0 Ad Tn n) (h : CTXd Tn ρ n s t a A J S) (e : s.2 9 (hd t) = 12) : cj iv L h0 Ad Tn ρ (n + 1) (3 * (n + 1) + 45) 88 [vr 307, vi (hd t), vi a] s (qi (POSTd s t A J S)) := by
  obtain ⟨hA, hf, hnd, htd, hDP⟩ := id h.2.1
  obtain ⟨hKJ, hBO, hJR, hSl⟩ := id h.2.2.1
  have hna : na t = 2 := by rw [hf, e]; rfl
  obtain ⟨b, x, y, rfl⟩ := AT_2 hA hna
  have hbm := hd_mem _ hA
  have hb := (AT_mem _ hA _ hbm).1
  obtain ⟨hdx, hdy⟩ := dpt2 h.1
  have e' : s.2 9 (b : Int) = 12 := e
  have h5 := h.2.2.2.2.1
  rw [len2] at h5
  refine by_maked (M := jpr (jds s x) (jds s y) A (jin (hd (Term.add (Term.add (Term.index b) x) y)) A J)) h ?_ (fun s0 st => ?_)
  · show jen (s.2 9 b) b A _ = _
    rw [if_neg (by omega), if_neg (by omega), if_pos e']
    rfl
  · obtain ⟨q9, q10, q11, q12, q13, q14, q2, qK, qx⟩ := ST_samed st
    refine dmk_9 (HTm h) (by rw [q9]; exact e) (D93 (HTm h) (by rw [q9]; exact e) ?_)
    have plain : ∀ (a1 : Int) (A1 : Option Term) (a2 : Int) (A2 : Option Term), aK s0 a1 A1 → aK s0 a2 A2 → jpr (jds s x) (jds s y) A (jin (hd (Term.add (Term.add (Term.index b) x) y)) A J) = ((jds s y A2 (jds s x A1 (jin (hd (Term.add (Term.add (Term.index b) x) y)) A J)).1).1, kmk 4 (jds s x A1 (jin (hd (Term.add (Term.add (Term.index b) x) y)) A J)).2 (jds s y A2 (jds s x A1 (jin (hd (Term.add (Term.add (Term.index b) x) y)) A J)).1).2) →
        two iv L h0 Ad Tn ρ n (3 * n + 45) (hd (Term.add (Term.add (Term.index b) x) y)) a1 a2 s0 (fun r2 w => MPOSTd s (Term.add (Term.add (Term.index b) x) y) A (jpr (jds s x) (jds s y) A (jin (hd (Term.add (Term.add (Term.index b) x) y)) A J)) S r2 w) := fun a1 A1 a2 A2 ha1 ha2 hM => by
      unfold two
      rw [q14, (kid2 hA).1]
      refine ST_ad hn h hA.1 ⟨_, rfl⟩ rfl hdx st ha1 (Nat.le_refl _) (fun r v st1 hx1 hv1 hk1 => ?_)
      obtain ⟨r9, r10, r11, r12, r13, r14, r2, rK, rx⟩ := ST_samed st1
      refine ⟨by rw [r9, q9], ?_⟩
      rw [r14, (kid2 hA).2]
      refine ST_bd hn h hA ⟨[], by simp⟩ rfl hdy st1 (aK_x hx1 qK ha2) (Nat.le_refl _) (fun r' u st2 hx2 hv2 hk2 => ?_)
      obtain ⟨u9, u10, u11, u12, u13, u14, u2, uK, ux⟩ := ST_samed st2
      have rb := st2.2.2.2.2
      rw [List.nil_append, List.length_append] at rb
      refine cjm (makeKind_okd uK (Or.inr rfl) (kext_vk hx2 hv1) hv2 (by omega)) (by omega) ?_
      rintro r2 w ⟨w1, w2, w3, w4, w5, w6⟩
      rw [hM]
      exact MP_0d st2 hnd h.2.2.2.1 hKJ dn2 (by rw [len2]; simp; omega) (JX.kx w1 w2 w3) (by omega) w5 (by rw [w6, kext_kt hx2 rK hv1, hk1, hk2])
    cases A with
    | none =>
      have ha1 : a = -1 := h.2.2.2.1
      exact ⟨fun _ => plain _ none _ none rfl rfl rfl, fun q => by omega, fun q => absurd ha1 q⟩
    | some T =>
      obtain ⟨av, ak⟩ := id h.2.2.2.1
      have av0 := kext_vk qx av
      have al := av0.lt qK.1.1.2 qK.2.1
      have eT : kts s0 a = T := (kext_kt qx hKJ av).trans ak
      have hM0 := (k_const qK).1.2
      have h03 := st.2.2.2.2
      simp only [List.length_nil] at h03
      rcases kt_cases qK av0 with ⟨k4, kr, kk⟩ | ⟨k4, kk⟩ | ⟨k4, kk⟩ | ⟨k4, kk, va, vb⟩ | ⟨k4, kk, va, vb⟩
      · rw [eT] at kk
        subst kk
        exact ⟨fun q => by omega, fun _ => plain _ (some .null) _ (some .null) (k_const qK).1 (k_const qK).1 rfl, fun _ q => absurd kr q⟩
      · have hr0 : a ≠ 0 := fun q => by rw [q, hM0] at kk; cases kk
        rw [eT] at kk
        subst kk
        exact ⟨fun q => by omega, fun q => absurd q hr0, fun _ _ => ⟨by omega, fun _ => plain _ none _ none rfl rfl rfl, fun q => by omega⟩⟩
      · have hr0 : a ≠ 0 := fun q => by rw [q, hM0] at kk; cases kk
        rw [eT] at kk
        subst kk
        exact ⟨fun q => by omega, fun q => absurd q hr0, fun _ _ => ⟨by omega, fun _ => plain _ none _ none rfl rfl rfl, fun q => by omega⟩⟩
      · have hr0 : a ≠ 0 := fun q => by rw [q, hM0] at kk; cases kk
        rw [eT] at kk
        subst kk
        exact ⟨fun q => by omega, fun q => absurd q hr0, fun _ _ => ⟨by omega, fun _ => plain _ none _ none rfl rfl rfl, fun q => by omega⟩⟩
      · have hr0 : a ≠ 0 := fun q => by rw [q, hM0] at kk; cases kk
        have hT : T = .mul (kts s0 (s0.2 5 a)) (kts s0 (s0.2 6 a)) := eT.symm.trans kk
        have key := plain (s0.2 5 a) (some (kts s0 (s0.2 5 a))) (s0.2 6 a) (some (kts s0 (s0.2 6 a))) ⟨va, rfl⟩ ⟨vb, rfl⟩ (by rw [hT]; rfl)
        exact ⟨fun q => by omega, fun q => absurd q hr0, fun _ _ => ⟨by omega, fun q => absurd k4 q, fun _ => key⟩⟩
theorem jsp_pickd (hn : JSPd iv L h0 Ad Tn n) (h : CTXd Tn ρ n s t a A J S) (e : s.2 9 (hd t) = 11) : cj iv L h0 Ad Tn ρ (n + 1) (3 * (n + 1) + 45) 88 [vr 307, vi (hd t), vi a] s (qi (POSTd s t A J S)) := by
  obtain ⟨hA, hf, hnd, htd, hDP⟩ := id h.2.1
  obtain ⟨hKJ, hBO, hJR, hSl⟩ := id h.2.2.1
  have hna : na t = 3 := by rw [hf, e]; rfl
  obtain ⟨b, x, y, z, rfl⟩ := AT_3 hA hna
  have hbm := hd_mem _ hA
  have hb := (AT_mem _ hA _ hbm).1
  obtain ⟨hdx, hdy, hdz⟩ := dpt3 h.1
  have e' : s.2 9 (b : Int) = 11 := e
  have h5 := h.2.2.2.2.1
  rw [len3] at h5
  have hbx : hd (Term.add (Term.add (Term.add (Term.index b) x) y) z) ∉ (([] ++ fl x) ++ fl y) ++ fl z := fun q => by
    have hnd1 : ((([(b : Int)] ++ fl x) ++ fl y) ++ fl z).Nodup := hnd
    have q : (b : Int) ∈ ((fl x ++ fl y) ++ fl z) := q
    rw [List.append_assoc, List.append_assoc] at hnd1
    rw [List.append_assoc] at q
    exact (List.nodup_append.mp hnd1).2.2 _ (List.mem_singleton.mpr rfl) _ q rfl
  refine by_maked (M := jpk (jds s x) (jds s y) (jds s z) b A (jin (hd (Term.add (Term.add (Term.add (Term.index b) x) y) z)) A J)) h rfl (fun s0 st => ?_)
  obtain ⟨q9, q10, q11, q12, q13, q14, q2, qK, qx⟩ := ST_samed st
  refine dmk_8 (HTm h) (by rw [q9]; exact e) (D92 (HTm h) (HTr h) (by rw [q9]; exact e) ?_)
  rw [q14, (kid3 hA).1]
  refine (ST_ad hn h hA.1.1 ⟨fl y ++ fl z, List.append_assoc (fl (.add (.index b) x)) (fl y) (fl z)⟩ rfl hdx st (A' := some .thrown) (k_const qK).2.2 (Nat.le_refl _) (fun r v st1 hx1 hv1 hk1 => ?_))
  obtain ⟨r9, r10, r11, r12, r13, r14, r2, rK, rx⟩ := ST_samed st1
  refine ⟨by rw [r9, q9], ?_⟩
  rw [r14, (kid3 hA).2.1]
  refine ST_bd hn h hA.1 ⟨_, rfl⟩ rfl hdy st1 (A' := A) (aK_x rx hKJ h.2.2.2.1) (Nat.le_refl _) (fun r' u st2 hx2 hv2 hk2 => ?_)
  obtain ⟨u9, u10, u11, u12, u13, u14, u2, uK, ux⟩ := ST_samed st2
  refine ⟨by rw [u9, q9], ?_⟩
  rw [u14, (kid3 hA).2.2]
  refine ST_cd hn h hA ⟨[], by simp⟩ rfl hdz st2 (A' := A) (aK_x ux hKJ h.2.2.2.1) (Nat.le_refl _) (fun r'' w st3 hx3 hv3 hk3 => ?_)
  obtain ⟨w9, w10, w11, w12, w13, w14, w2, wK, wx⟩ := ST_samed st3
  have rb := st3.2.2.2.2
  rw [List.nil_append, List.length_append, List.length_append] at rb
  have hv2' := kext_vk hx3 hv2
  have hk2' := (kext_kt hx3 uK hv2).trans hk2
  cases A with
  | none =>
    refine ⟨fun _ => ?_, fun q => absurd h.2.2.2.1 q⟩
    have s2 := (wK.at hv2').1.2
    refine cjm (areMeeting_okd wK (by omega) hv2' hv3) (by omega) ?_
    rintro r22 w' ⟨rfl, rfl⟩
    rw [hk2', hk3]
    cases hm : kmt (jds s y none (jds s x (some .thrown) (jin (hd (Term.add (Term.add (Term.add (Term.index b) x) y) z)) none J)).1).2 (jds s z none (jds s y none (jds s x (some .thrown) (jin (hd (Term.add (Term.add (Term.add (Term.index b) x) y) z)) none J)).1).1).2 with
    | true =>
      refine ⟨fun q => absurd q (by decide), fun _ => ?_⟩
      refine cjm (together_okd wK hv2' hv3 (by rw [hk2', hk3]; exact hm) (by omega)) (by omega) ?_
      rintro r2 m ⟨m1, m2, m3, m4, m5, m6⟩
      have hM : jpk (jds s x) (jds s y) (jds s z) b none (jin (hd (Term.add (Term.add (Term.add (Term.index b) x) y) z)) none J) = (_, _) := if_pos hm
      rw [hM]
      exact MP_0d st3 hnd h.2.2.2.1 hKJ dn3 (by rw [len3]; simp; omega) (JX.kx m1 m2 m3) (by omega) m5 (by rw [m6, hk2', hk3])
    | false =>
      refine ⟨fun _ => ?_, fun q => absurd rfl q⟩
      have hM : jpk (jds s x) (jds s y) (jds s z) b none (jin (hd (Term.add (Term.add (Term.add (Term.index b) x) y) z)) none J) = (jsr _ (hd (Term.add (Term.add (Term.add (Term.index b) x) y) z)) 5, .null) := if_neg (by rw [hm]; decide)
      rw [hM]
      have wK' : KJs (ua w' 21 (hd (Term.add (Term.add (Term.add (Term.index b) x) y) z)) 5) := wK
      exact MP_rd st3 hnd h.2.2.2.1 hKJ hSl hbm hbx ⟨by omega, by omega⟩ dn3 (by rw [len3]; simp; omega) (JX.rf wK') (by show w'.1 3 ≤ w'.1 3 + 20; omega) (k_const wK').1.1 (k_const wK').1.2
  | some T =>
    obtain ⟨av, ak⟩ := id h.2.2.2.1
    have al := av.lt hKJ.1.1.2 hKJ.2.1
    refine ⟨fun q => by omega, fun _ => ?_⟩
    exact MP_0d st3 hnd h.2.2.2.1 hKJ dn3 (by rw [len3]; simp; omega) (JX.rf wK) (by omega) (kext_vk wx av) (by rw [kext_kt wx hKJ av]; exact ak)
/-- every tree -/
theorem jsp_alld : ∀ n, JSPd iv L h0 Ad Tn n := by
  intro n
  induction n with
  | zero => intro ρ t s a A J S h; have := dpt_pos t; omega
  | succ n ih =>
    intro ρ t s a A J S h1 h2 h3 h4 h5 h6
    have hc : CTXd Tn ρ n s t a A J S := ⟨h1, h2, h3, h4, h5, h6⟩
    have hm := (AT_mem t h2.1 _ (hd_mem t h2.1)).2.1
    rcases (show s.2 9 (hd t) = 0 ∨ s.2 9 (hd t) = 1 ∨ s.2 9 (hd t) = 2 ∨ s.2 9 (hd t) = 3 ∨ s.2 9 (hd t) = 4 ∨ s.2 9 (hd t) = 5 ∨ s.2 9 (hd t) = 6 ∨ s.2 9 (hd t) = 7 ∨ s.2 9 (hd t) = 8 ∨ s.2 9 (hd t) = 9 ∨ s.2 9 (hd t) = 10 ∨ s.2 9 (hd t) = 11 ∨ s.2 9 (hd t) = 12 ∨ s.2 9 (hd t) = 13 ∨ s.2 9 (hd t) = 14 ∨ s.2 9 (hd t) = 15 by omega) with e | e | e | e | e | e | e | e | e | e | e | e | e | e | e | e
    · exact jsp_leafd hc (by omega)
    · exact jsp_leafd hc (by omega)
    · exact jsp_leafd hc (by omega)
    · exact jsp_named hc e
    · exact jsp_reckd ih hc (by omega)
    · exact jsp_reckd ih hc (by omega)
    · exact jsp_reckd ih hc (by omega)
    · exact jsp_reckd ih hc (by omega)
    · exact jsp_defd ih hc e
    · exact jsp_used ih hc e
    · exact jsp_letd ih hc e
    · exact jsp_pickd ih hc e
    · exact jsp_paird ih hc e
    · exact jsp_halfd ih hc (by omega)
    · exact jsp_halfd ih hc (by omega)
    · exact jsp_toldd ih hc e
end
end
section
/-! The desk lists its sheet and judges it. -/
/-- rows of the desk for judging, the rest from elsewhere -/
def mx (A : Int → Nat) (c : SC) (s : SM) : SM := (fun y => if y = 2 then fI c 65 4 else if y = 3 then fI c 65 5 else s.1 y, fun f => if f = 4 then aI c 66 else if f = 5 then aI c 67 else if f = 6 then aI c 68 else if f = 7 then aI c 69 else if f = 19 then (fun b => fI c (A b) 9) else if f = 20 then (fun b => fI c (A b) 8) else if f = 21 then (fun b => fI c (A b) 10) else s.2 f)
def KJc (c : SC) : Prop := KJ (fI c 65 4) (fI c 65 5) (aI c 66) (aI c 67) (aI c 68) (aI c 69)
def vkc (c : SC) (k : Int) : Prop := vk (fI c 65 4) (fI c 65 5) k
def ktc (c : SC) (k : Int) : Term := kt (aI c 66) (aI c 67) (aI c 68) k
/-- kinds that were told are the same -/
def KIc (c : SC) (s : SM) : Prop := fI c 65 4 = s.1 2 ∧ ∀ k, 0 ≤ k → k < s.1 2 → aI c 66 k = s.2 4 k ∧ aI c 67 k = s.2 5 k ∧ aI c 68 k = s.2 6 k ∧ aI c 69 k = s.2 7 k
def aKc (c : SC) (a : Int) (A : Option Term) : Prop := match A with
  | none => a = -1
  | some t => vkc c a ∧ ktc c a = t
/-- what was judged stands at the nodes -/
def JUc (A : Int → Nat) (c : SC) (s : SM) (t : Term) : Prop := KJc c ∧ fI c 65 5 ≤ 1240 ∧ ∀ x, x ∈ fl t → (vkc c (fI c (A x) 9) ∧ ktc c (fI c (A x) 9) = (jdg s t).1 x) ∧ aKc c (fI c (A x) 8) ((jdg s t).2.1 x) ∧ fI c (A x) 10 = (jdg s t).2.2 x ∧ 0 ≤ (jdg s t).2.2 x ∧ (jdg s t).2.2 x ≤ 6
theorem KI_lt {n : Int} {ks ka kb sz ks' ka' kb' sz' : Int → Int} (h : KI n ks ka kb sz) (he : ∀ k, 0 ≤ k → k < n → ks' k = ks k ∧ ka' k = ka k ∧ kb' k = kb k ∧ sz' k = sz k) : KI n ks' ka' kb' sz' := by
  obtain ⟨h1, h2, h3⟩ := h
  refine ⟨h1, fun k k0 k3 => ?_, fun k k3 kn => ?_⟩
  · obtain ⟨e1, e2, e3, e4⟩ := he k k0 (by omega)
    rw [e1, e2, e3, e4]
    exact h2 k k0 k3
  · obtain ⟨q1, q2, q3, q4, q5⟩ := h3 k k3 kn
    obtain ⟨e1, e2, e3, e4⟩ := he k (by omega) kn
    rw [e1, e2, e3, e4, (he (ka k) (by omega) (by omega)).2.2.2, (he (kb k) (by omega) (by omega)).2.2.2]
    exact ⟨q1, q2, q3, q4, q5⟩
/-- kinds by rows that agree -/
theorem kt_lt {n : Int} {ks ka kb sz ks' ka' kb' : Int → Int} (h : KI n ks ka kb sz) (he : ∀ k, 0 ≤ k → k < n → ks' k = ks k ∧ ka' k = ka k ∧ kb' k = kb k) : ∀ k, 0 ≤ k → k < n → kt ks' ka' kb' k = kt ks ka kb k := by
  have key : ∀ (q : Nat) (k : Int), 0 ≤ k → k < n → kd ks' ka' kb' q k = kd ks ka kb q k := by
    intro q
    induction q with
    | zero => intro k _ _; rfl
    | succ q ih =>
      intro k k0 kn
      obtain ⟨e1, e2, e3⟩ := he k k0 kn
      rw [kd_s, kd_s, e1, e2, e3]
      by_cases h3 : k < 3
      · obtain ⟨f1, -⟩ := h.2.1 k k0 h3
        by_cases e0 : ks k = 0
        · rw [if_pos e0, if_pos e0]
        · by_cases e1 : ks k = 1
          · rw [if_neg e0, if_neg e0, if_pos e1, if_pos e1]
          · rw [if_neg e0, if_neg e0, if_neg e1, if_neg e1, if_pos (by omega), if_pos (by omega)]
      · obtain ⟨g1, g2, g3, -⟩ := h.2.2 k (by omega) kn
        rw [ih _ g2.1 (by omega), ih _ g3.1 (by omega)]
  intro k k0 kn
  exact key 40 k k0 kn
section
variable {iv : List (Int × Int)} {L : Nat} {h0 : MH} {A : Int → Nat} {c e : SC} {s : SM} {t : Term} {d : Nat}
theorem KIc.KI (h : KIc c s) (hK : KIs s) : KI (fI c 65 4) (aI c 66) (aI c 67) (aI c 68) (aI c 69) := by
  rw [h.1]
  exact KI_lt hK h.2
theorem KIc.kks (h : KIc c s) (hK : KIs s) {k : Int} (h0 : 0 ≤ k) (hk : k < s.1 2) : ktc c k = kks s k := by
  rw [kks_told ⟨h0, hk⟩]
  exact kt_lt hK (fun k k0 kn => by
    obtain ⟨e1, e2, e3, -⟩ := h.2 k k0 kn
    exact ⟨e1, e2, e3⟩) k h0 hk
/-- the tree as a place to judge -/
theorem js_of (hX : FIX c) (hN : ND A c s) (hH : HG A c s t) (h : SHT s t) : JS A (fun x => x ∈ fl t) c s := by
  refine ⟨⟨A9 hN, fun b b' hb hb' e => hN.inj (h.m _ hb') e⟩, fun b hb => ?_⟩
  obtain ⟨⟨n1, n2, n3, n4, n5, n6, n7, n8⟩, n9, n10⟩ := hN.2 b (h.m b hb).1 (h.m b hb).2
  obtain ⟨q1, q2, q3⟩ := hH.1 b hb
  refine ⟨⟨(hN.ne (h.m b hb)).2, n1, n2, n3⟩, ⟨n5, n8, n6, n7⟩, ⟨q1, fun q => q2 (fun e => q (by rw [e]; exact h.2.2.2.2.2.2.1)), ?_⟩, fun i i0 i1 => ⟨q3 i i0 i1, ?_⟩⟩
  · by_cases e : b = hd t
    · left; rw [e]; exact h.2.2.2.2.2.2.1
    · right; exact h.up9 hb e
  · exact ((AT_mem t h.1 b hb).2.2.1 i i0 i1 (fun e => by have := h.2.1; unfold full at this; rw [e] at i1; omega)).1
theorem judgeAll_ok {F : SC → Prop} (hX : FIX c) (hN : ND A c s) (hH : HG A c s t) (h : SHT s t) (hB : NB s) (hK : KIs s) (hI : KIc c s) (hD : 230 ≤ d) (hF : ∀ e, CX jys jrs c e → RMk 0 0 c e → KIc e s → JUc A e s t → F e) : ck iv L h0 d 163 [vr 175, vr (A (hd t))] c (qv F) := by
  obtain ⟨d, rfl⟩ : ∃ k, d = k + 1 := ⟨d - 1, by omega⟩
  have hk : kl c 175 = 3 ∧ kl c 65 = 4 ∧ fR c 175 0 = 65 := by simp only [hX.1]; exact ⟨trivial, trivial, trivial⟩
  refine C163 ⟨hk.1, by rw [hk.2.2]; exact hk.2.1, ?_⟩
  rw [hk.2.2]
  refine C180 ⟨hk.2.1, hk.1, ?_⟩
  generalize hf : uI c 65 5 40 = f
  have hXf : FIX f := by rw [← hf]; exact hX
  have hx0 : CX jys jrs c f := by rw [← hf]; exact CX.rf.uI (fun _ => by rw [hk.2.1]; decide)
  have hNf : ND A f s := hN.x hx0 (by decide) (by decide) (by decide) (by decide) (by decide)
  have hHf : HG A f s t := hH.x hN h.m hX hx0 (by decide) (by decide) (by decide) (by decide)
  have f4 : fI f 65 4 = s.1 2 := by rw [← hf, fI_uI, if_neg (by omega)]; exact hI.1
  have f5 : fI f 65 5 = 40 := by rw [← hf, fI_uI, if_pos ⟨rfl, rfl⟩]
  have hIf : KIc f s := ⟨f4, by rw [← hf]; exact hI.2⟩
  have hKI := hIf.KI hK
  have hSJ : KJs (mx A f s) := by
    show KJ (fI f 65 4) (fI f 65 5) (aI f 66) (aI f 67) (aI f 68) (aI f 69)
    exact ⟨hKI, by omega, fun k k1 k2 => by omega⟩
  have hv : VJ A (fun x => x ∈ fl t) (fun _ => none) f (mx A f s) := ⟨hXf, js_of hXf hNf hHf h, fun b _ => ⟨rfl, rfl, rfl⟩, ⟨rfl, rfl⟩, rfl, rfl, rfl, rfl⟩
  have hdp := dpt_len t h.1
  have hl := h.2.2.2.1
  have hB8 := h.2.2.2.2.1
  have hT : PRT (mx A f s) t := ⟨AT_B (show s.1 8 ≤ 3004 by omega) t h.1, h.2.1, h.2.2.1, fun x hx q => by
    have := (hB x (h.lt hx).1 (h.lt hx).2.1).2.2.2 q
    show 0 ≤ s.2 11 x ∧ s.2 11 x < fI f 65 4
    rw [f4]; exact this, fun x hx => DP_up 61 70 _ (by omega) (DP_tree h x hx)⟩
  have hP : PRJ (mx A f s) (hd t) (fl t) J0 (fun _ => False) := ⟨hSJ, fun x => Or.inl (by
    show bnd (s.2 9) (s.2 10) (s.2 12) (s.2 13) 70 (hd t) x = -9
    unfold bnd
    rw [if_pos h.2.2.2.2.2.2.1]), fun x q => q.elim, fun x q => q.elim⟩
  have h3 : (mx A f s).1 3 = 40 := f5
  have spec := jsp_alld (iv := iv) (L := L) (h0 := h0) (Ad := A) (Tn := fun x => x ∈ fl t) (dpt t) (fun _ => none) t (mx A f s) (-1) none J0 (fun _ => False) (Nat.le_refl _) hT hP rfl (by rw [h3]; omega) ⟨fun _ q => q, fun x q => absurd rfl q⟩
  refine inQ (spec f 0 hv (Int.le_refl _) (by omega)) (by omega) ?_
  rintro r e w hvw ⟨hxw, hrw⟩ ⟨p1, p2, p3, p4⟩
  have hjd : (jds (mx A f s) t none J0).1 = jdg s t := by
    show jdg (mx A f s) t = jdg s t
    refine jdg_un h.w ⟨AT_B (show s.1 8 ≤ 3004 by omega) t h.1, h.2.1, h.2.2.1, h.2.2.2.2.2.1, h.2.2.2.2.2.2.1, h.2.2.2.2.2.2.2⟩ (fun x _ => ⟨rfl, rfl, rfl⟩) (fun x hx q => ?_)
    have hq := (hB x (h.lt hx).1 (h.lt hx).2.1).2.2.2 q
    rw [kks_told (s := mx A f s) ⟨hq.1, by show s.2 11 x < fI f 65 4; rw [f4]; exact hq.2⟩, ← hIf.kks hK hq.1 hq.2]
    rfl
  rw [hjd] at p4
  obtain ⟨hXe, -, hJe, ⟨g1, g2⟩, g4, g5, g6, g7⟩ := hvw
  have w2 : w.1 2 = s.1 2 := (p1.1.1 2 (by decide)).trans f4
  refine hF e (hx0.tr hxw) ⟨by have := hrw.1; rw [← hf] at this; exact this, by have := hrw.2; rw [← hf] at this; exact this⟩ ⟨g1.trans w2, fun k k0 kn => ?_⟩ ⟨?_, ?_, fun x hx => ?_⟩
  · rw [g4, g5, g6, g7]
    obtain ⟨q1, q2, q3, q4⟩ := p1.2.2.1.2.2 k (by rw [h3]; have := hK.1; omega)
    obtain ⟨o1, o2, o3, o4⟩ := hIf.2 k k0 kn
    exact ⟨q1.trans o1, q2.trans o2, q3.trans o3, q4.trans o4⟩
  · unfold KJc
    rw [g1, g2, g4, g5, g6, g7]
    exact p1.2.1
  · rw [g2]
    rw [h3] at p2
    omega
  · obtain ⟨⟨r1, r2⟩, r3, r4⟩ := p4 x (Or.inr hx)
    obtain ⟨j1, j2, j3⟩ := hJe x hx
    have j3 : fI e (A x) 10 = w.2 21 x := j3
    have hvk : ∀ k, vkc e k ↔ vks w k := fun k => by unfold vkc vks; rw [g1, g2]
    have hkt : ∀ k, ktc e k = kts w k := fun k => by unfold ktc kts; rw [g4, g5, g6]
    rw [j1, j2, j3]
    refine ⟨⟨(hvk _).mpr r1, (hkt _).trans r2⟩, ?_, r4⟩
    cases hA : (jdg s t).2.1 x with
    | none => rw [hA] at r3; exact r3
    | some T => rw [hA] at r3; exact ⟨(hvk _).mpr r3.1, (hkt _).trans r3.2⟩
def sys : List (Nat × Nat) := [(5, 7), (8, 3), (5, 8), (5, 9), (5, 10), (25, 8), (25, 9), (25, 10), (4, 5)]
def srs : List Nat := [71, 66, 67, 68, 69]
theorem settle_ok {F : SC → Prop} (hX : FIX c) (hN : ND A c s) (hH : HG A c s t) (h : SHT s t) (hB : NB s) (hK : KIs s) (hI : KIc c s) (hD : 231 ≤ d) (hF : ∀ e, CX sys srs c e → RMk 0 0 c e → LST A e t → KIc e s → JUc A e s t → F e) : ck iv L h0 d 51 [vr 64] c (qv F) := by
  obtain ⟨d, rfl⟩ : ∃ k, d = k + 1 + 2 := ⟨d - 3, by omega⟩
  have hk : kl c 64 = 1 ∧ kl c 70 = 8 ∧ fR c 64 1 = 70 := by simp only [hX.1]; exact ⟨trivial, trivial, trivial⟩
  refine C51 ⟨hk.1, by rw [hk.2.2]; exact hk.2.1, ?_⟩
  rw [hk.2.2]
  refine list_ok hX hN hH h (fun f hx hr hL => ?_)
  have hXf := hX.x hx (by decide) (by decide)
  have hk : kl f 64 = 1 ∧ kl f 70 = 8 ∧ fR f 64 1 = 70 ∧ fR f 64 2 = 175 ∧ kl f 175 = 3 := by simp only [hXf.1]; exact ⟨trivial, trivial, trivial, trivial, trivial⟩
  have hNf := hN.x hx (by decide) (by decide) (by decide) (by decide) (by decide)
  have hHf := hH.x hN h.m hX hx (by decide) (by decide) (by decide) (by decide)
  have h353 := hX.2.2.1
  have hk65 : kl c 65 = 4 := by simp only [hX.1]
  have hIf : KIc f s := by
    have ar : ∀ a, 66 ≤ a → a ≤ 69 → aI f a = aI c a := fun a a1 a2 => hx.ai (by omega) (by unfold rk; rw [if_pos (by omega)]; simp; omega)
    refine ⟨(hx.i (by omega) (by rw [hk65]; decide)).trans hI.1, fun k k0 kn => ?_⟩
    rw [ar 66 (by decide) (by decide), ar 67 (by decide) (by decide), ar 68 (by decide) (by decide), ar 69 (by decide) (by decide)]
    exact hI.2 k k0 kn
  refine ⟨hk.1, by rw [hk.2.2.1]; exact hk.2.1, by rw [hk.2.2.2.1]; exact hk.2.2.2.2, ?_⟩
  rw [hk.2.2.2.1, hk.2.2.1, hHf.2]
  refine judgeAll_ok hXf hNf hHf h hB hK hIf (by omega) (fun e hx2 hr2 hI2 hJ2 => ?_)
  refine hF e ((hx.up (by decide) (by decide)).tr (hx2.up (by decide) (by decide))) (hr.tr hr2) (hL.x hNf h.m hXf hx2 (by decide) (by decide) (by decide)) hI2 hJ2
end
end
