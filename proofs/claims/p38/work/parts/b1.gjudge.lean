section
/-! Judging by the desk: from making to judging. Printed by wip/gen2/mkjd.py, mkjd2.py out of 73 to 74d, then changed by hand. -/
def POSTd (s : SM) (t : Term) (A : Option Term) (J : JT) (S : Int → Prop) (r : Int) (w : SM) : Prop :=
  JX s w (fl t) ∧ w.1 3 ≤ s.1 3 + 20 * (fl t).length ∧ (vks w r ∧ kts w r = (jds s t A J).2) ∧ JR w (jds s t A J).1 (fun x => S x ∨ x ∈ fl t)
def HTd (Tn : Int → Prop) (ρ : Int → Option Int) (t : Term) (S : Int → Prop) : Prop := (∀ x, x ∈ fl t → Tn x) ∧ ∀ x, ρ x ≠ none → x ∉ fl t ∧ ¬ S x
def JSPd (iv : List (Int × Int)) (L : Nat) (h0 : MH) (Ad : Int → Nat) (Tn : Int → Prop) (n : Nat) : Prop := ∀ (ρ : Int → Option Int) (t : Term) (s : SM) (a : Int) (A : Option Term) (J : JT) (S : Int → Prop), dpt t ≤ n → PRT s t → PRJ s (hd t) (fl t) J S → aK s a A → s.1 3 + 20 * (fl t).length ≤ 1440 → HTd Tn ρ t S → cj iv L h0 Ad Tn ρ n (3 * n + 45) 88 [vr 307, vi (hd t), vi a] s (qi (POSTd s t A J S))
theorem cjm {iv : List (Int × Int)} {L : Nat} {h0 : MH} {Ad : Int → Nat} {Tn : Int → Prop} {ρ : Int → Option Int} {k d d' M : Nat} {s : SM} {as : List VV} {F F' : Int → SM → Prop} (h : cj iv L h0 Ad Tn ρ k d M as s (qi F)) (hd : d ≤ d') (hq : ∀ z s', F z s' → F' z s') : cj iv L h0 Ad Tn ρ k d' M as s (qi F') := cji_mono h hd (Nat.le_refl _) hq
theorem seenAs_okd {iv : List (Int × Int)} {L : Nat} {h0 : MH} {Ad : Int → Nat} {Tn : Int → Prop} {ρ : Int → Option Int} {k d : Nat} {s : SM} {b : Int} {F : Int → SM → Prop} (hT : Tn b) (hρ : ρ b = none) (hr : 0 ≤ s.2 21 b) (h : F (if 0 < s.2 21 b then 0 else s.2 19 b) s) : cj iv L h0 Ad Tn ρ k d 87 [vr 307, vi b] s (qi F) := by
  refine D87 hT hρ ⟨fun q => ?_, fun q => ?_⟩
  · rw [if_pos (by omega)] at h; exact h
  · rw [if_neg (by omega)] at h; exact h
section
variable {iv : List (Int × Int)} {L : Nat} {h0 : MH} {Ad : Int → Nat} {Tn : Int → Prop} {ρ : Int → Option Int} {k : Nat}
/-- make() as a spec: what it comes to, the node's own kind left out -/
def MPOSTd (s : SM) (t : Term) (A : Option Term) (M : JT × Term) (S : Int → Prop) (r : Int) (w : SM) : Prop :=
  JX s w (fl t) ∧ w.1 3 ≤ s.1 3 + 20 * (fl t).length ∧ (vks w r ∧ kts w r = M.2) ∧ JR w M.1 (fun x => S x ∨ (x ∈ fl t ∧ x ≠ hd t)) ∧ (aK w (w.2 20 (hd t)) A ∧ M.1.2.1 (hd t) = A) ∧ (w.2 21 (hd t) = M.1.2.2 (hd t) ∧ 0 ≤ M.1.2.2 (hd t) ∧ M.1.2.2 (hd t) ≤ 6)
theorem judge_of_maked {s : SM} {t : Term} {a : Int} {A : Option Term} {J : JT} {S : Int → Prop} {n : Nat} {M : JT × Term} (hT : PRT s t) (hP : PRJ s (hd t) (fl t) J S) (ha : aK s a A) (hM : jds s t A J = jen (s.2 9 (hd t)) (hd t) A M) (hbd : s.1 3 + 20 * (fl t).length ≤ 1440) (hTb : Tn (hd t)) (hρb : ρ (hd t) = none)
    (hmk : cj iv L h0 Ad Tn ρ k (n + 44) 89 [vr 307, vi (hd t), vi a] (ua (ua s 20 (hd t) a) 21 (hd t) 0) (qi (MPOSTd s t A M S))) : cj iv L h0 Ad Tn ρ (k + 1) (n + 45) 88 [vr 307, vi (hd t), vi a] s (qi (POSTd s t A J S)) := by
  obtain ⟨hA, hf, hnd, htd, hDP⟩ := hT
  have hb := (AT_mem t hA _ (hd_mem t hA)).1
  have hbm := hd_mem t hA
  obtain ⟨hKJ, hBO, hJR, hSl⟩ := hP
  refine D88 hTb hρb (cjm hmk (Nat.le_refl _) ?_)
  rintro r w ⟨hX, hk, ⟨hv, hkt⟩, hR, ⟨hak, haA⟩, hr1, hr2, hr3⟩
  have hKw := hX.2.1
  have ha2 := aK_x hX.2.2.1 hKJ ha
  -- the rows behind 'made'
  have fin : ∀ (z : Int), (z = 0 ∨ z = 6) → (z = 6 → w.2 21 (hd t) = 0) → jcl (s.2 9 (hd t)) (hd t) A M.2 (jmd (hd t) M.2 M.1) = (if z = 6 then jsr (jmd (hd t) M.2 M.1) (hd t) 6 else jmd (hd t) M.2 M.1) →
      cj iv L h0 Ad Tn ρ k (n + 44) 87 [vr 307, vi (hd t)] (if z = 6 then ua (ua w 19 (hd t) r) 21 (hd t) 6 else ua w 19 (hd t) r) (qi (POSTd s t A J S)) := by
    intro z hz hz6 hcl
    generalize hv2 : (if z = 6 then ua (ua w 19 (hd t) r) 21 (hd t) 6 else ua w 19 (hd t) r) = v
    have v19 : ∀ x, v.2 19 x = if x = hd t then r else w.2 19 x := fun x => by
      rw [← hv2]
      rcases hz with rfl | rfl
      · simp [ua_2]
      · simp [ua_2]
    have v20 : ∀ x, v.2 20 x = w.2 20 x := fun x => by
      rw [← hv2]
      rcases hz with rfl | rfl
      · simp [ua_2]
      · simp [ua_2]
    have v21 : ∀ x, v.2 21 x = if x = hd t ∧ z = 6 then 6 else w.2 21 x := fun x => by
      rw [← hv2]
      rcases hz with rfl | rfl
      · simp [ua_2]
      · simp [ua_2]
    have ve : eqx [] [19, 21] w v := by
      rw [← hv2]
      rcases hz with rfl | rfl
      · rw [if_neg (by decide)]; exact eqx_ua eqx.rf (by decide)
      · rw [if_pos rfl]; exact eqx_ua (eqx_ua eqx.rf (by decide)) (by decide)
    have vK : KJs v := by
      unfold KJs at hKw ⊢
      rw [ve.1 2 (by decide), ve.1 3 (by decide), ve.2 4 (by decide), ve.2 5 (by decide), ve.2 6 (by decide), ve.2 7 (by decide)]
      exact hKw
    have vx : kext w v := ⟨(ve.1 2 (by decide)).symm, by rw [ve.1 3 (by decide)]; exact Int.le_refl _, fun k _ => by rw [ve.2 4 (by decide), ve.2 5 (by decide), ve.2 6 (by decide), ve.2 7 (by decide)]; exact ⟨rfl, rfl, rfl, rfl⟩⟩
    have vX : JX s v (fl t) := hX.tr ⟨ve.up (fun y q => by cases q) (fun f q => by simp at q ⊢; omega), vK, vx, fun x hx => by
      have hxt : x ≠ hd t := fun e => hx (by rw [e]; exact hbm)
      rw [v19, v20, v21, if_neg hxt, if_neg (fun q => hxt q.1)]
      exact ⟨rfl, rfl, rfl⟩⟩
    have e21 : v.2 21 (hd t) = (jcl (s.2 9 (hd t)) (hd t) A M.2 (jmd (hd t) M.2 M.1)).2.2 (hd t) := by
      rw [v21, hcl]
      rcases hz with rfl | rfl
      · rw [if_neg (fun q => absurd q.2 (by decide)), if_neg (by decide)]; exact hr1
      · rw [if_pos ⟨rfl, rfl⟩, if_pos rfl]
        show (6 : Int) = if hd t = hd t then 6 else _
        rw [if_pos rfl]
    have eo : ∀ x, x ≠ hd t → (jcl (s.2 9 (hd t)) (hd t) A M.2 (jmd (hd t) M.2 M.1)).1 x = M.1.1 x ∧ (jcl (s.2 9 (hd t)) (hd t) A M.2 (jmd (hd t) M.2 M.1)).2.1 x = M.1.2.1 x ∧ (jcl (s.2 9 (hd t)) (hd t) A M.2 (jmd (hd t) M.2 M.1)).2.2 x = M.1.2.2 x := fun x hx => by
      rw [hcl]
      rcases hz with rfl | rfl
      · rw [if_neg (by decide)]
        exact ⟨if_neg hx, rfl, rfl⟩
      · rw [if_pos rfl]
        exact ⟨if_neg hx, rfl, if_neg hx⟩
    have ebm : (jcl (s.2 9 (hd t)) (hd t) A M.2 (jmd (hd t) M.2 M.1)).1 (hd t) = M.2 ∧ (jcl (s.2 9 (hd t)) (hd t) A M.2 (jmd (hd t) M.2 M.1)).2.1 (hd t) = M.1.2.1 (hd t) := by
      rw [hcl]
      rcases hz with rfl | rfl
      · rw [if_neg (by decide)]
        exact ⟨if_pos rfl, rfl⟩
      · rw [if_pos rfl]
        exact ⟨if_pos rfl, rfl⟩
    have r6 : 0 ≤ (jcl (s.2 9 (hd t)) (hd t) A M.2 (jmd (hd t) M.2 M.1)).2.2 (hd t) ∧ (jcl (s.2 9 (hd t)) (hd t) A M.2 (jmd (hd t) M.2 M.1)).2.2 (hd t) ≤ 6 := by
      rw [← e21, v21]
      split
      · omega
      · omega
    have n0 : kts v 0 = .null := (kt_leaf vK).1 (vK.1.2.1 0 (by omega) (by omega)).1
    have hv2' := kext_vk vx hv
    have hkt2 := kext_kt vx hKw hv
    refine seenAs_okd hTb hρb (by rw [e21]; exact r6.1) ⟨vX, by rw [ve.1 3 (by decide)]; exact hk, ?_, ?_⟩
    · rw [hM]
      show vks v (if 0 < v.2 21 (hd t) then 0 else v.2 19 (hd t)) ∧ kts v (if 0 < v.2 21 (hd t) then 0 else v.2 19 (hd t)) = jsee (jcl (s.2 9 (hd t)) (hd t) A M.2 (jmd (hd t) M.2 M.1)) (hd t)
      unfold jsee
      rw [← e21, ebm.1]
      by_cases hp : 0 < v.2 21 (hd t)
      · rw [if_pos hp, if_pos hp]
        exact ⟨Or.inl ⟨by omega, by have := vK.1.1; omega⟩, n0⟩
      · rw [if_neg hp, if_neg hp, v19, if_pos rfl]
        exact ⟨hv2', hkt2.trans hkt⟩
    · rw [hM]
      show JR v (jcl (s.2 9 (hd t)) (hd t) A M.2 (jmd (hd t) M.2 M.1)) (fun x => S x ∨ x ∈ fl t)
      intro x hx
      by_cases e : x = hd t
      · subst e
        rw [ebm.1, ebm.2, ← e21, v19, if_pos rfl, v20]
        exact ⟨⟨hv2', hkt2.trans hkt⟩, by rw [haA]; exact aK_x vx hKw hak, rfl, by rw [e21]; exact r6⟩
      · obtain ⟨o1, o2, o3⟩ := eo x e
        obtain ⟨⟨a1, a2⟩, a3, a4⟩ := hR x (hx.imp id (fun q => ⟨q, e⟩))
        rw [o1, o2, o3, v19, if_neg e, v20, v21, if_neg (fun q => e q.1)]
        exact ⟨⟨kext_vk vx a1, (kext_kt vx hKw a1).trans a2⟩, aK_x vx hKw a3, a4⟩
  have noc : jcl (s.2 9 (hd t)) (hd t) A M.2 (jmd (hd t) M.2 M.1) = jmd (hd t) M.2 M.1 → cj iv L h0 Ad Tn ρ k (n + 44) 87 [vr 307, vi (hd t)] (ua w 19 (hd t) r) (qi (POSTd s t A J S)) := fun h => by
    have := fin 0 (Or.inl rfl) (fun q => absurd q (by decide)) (by rw [if_neg (by decide)]; exact h)
    rwa [if_neg (by decide)] at this
  have hw9 : w.2 9 = s.2 9 := hX.1.2 9 (by decide)
  refine ⟨fun e => noc ?_, fun e => ⟨fun e2 => noc ?_, fun e2 => ⟨fun e3 => noc ?_, fun e3 => ⟨fun e4 => noc ?_, fun e4 => ?_⟩⟩⟩⟩
  · cases A with
    | none => rfl
    | some T =>
      exfalso
      have := ha.1.lt hKJ.1.1.2 hKJ.2.1
      omega
  · cases A with
    | none => rfl
    | some T =>
      exact jcl_z (fun q => e2 (by rw [hr1]; exact q.1))
  · cases A with
    | none => rfl
    | some T =>
      exact jcl_z (fun q => q.2.1 (by rw [← hw9]; exact e3))
  · cases A with
    | none => rfl
    | some T =>
      exact jcl_z (fun q => q.2.2.1 (by rw [← hw9]; exact e4))
  · cases A with
    | none => exact absurd ha e
    | some T =>
      obtain ⟨ha3, ha4⟩ := ha2
      have v19 : (ua w 19 (hd t) r).2 19 (hd t) = r := by show (if 19 = 19 ∧ hd t = hd t then r else _) = r; rw [if_pos ⟨rfl, rfl⟩]
      have hz1 := (hKw.at ha3).1
      have hK2 : KJs (ua w 19 (hd t) r) := hKw
      refine cjm (areMeeting_okd hK2 (by show w.1 3 ≤ 1440; omega) ha3 hv) (by omega) ?_
      rintro q u ⟨rfl, rfl⟩
      have e5 : kmt (kts (ua w 19 (hd t) r) a) (kts (ua w 19 (hd t) r) r) = kmt T M.2 := by
        show kmt (kts w a) (kts w r) = _
        rw [ha4, hkt]
      rw [e5]
      cases hm : kmt T M.2 with
      | true =>
        refine ⟨fun _ => noc ?_, fun h => absurd h (by decide)⟩
        exact jcl_z (fun q => by rw [hm] at q; exact absurd q.2.2.2 (by decide))
      | false =>
        refine ⟨fun h => absurd rfl h, fun _ => ?_⟩
        have := fin 6 (Or.inr rfl) (fun _ => e2) (by
          rw [if_pos rfl]
          exact jcl_y ⟨hr1.symm.trans e2, by rw [← hw9]; exact e3, by rw [← hw9]; exact e4, hm⟩)
        rwa [if_pos rfl] at this
end
/-- a node, some of its parts judged -/
def SJd (s : SM) (t : Term) (a : Int) (A : Option Term) (S : Int → Prop) (dn : List Int) (J : JT) (w : SM) : Prop :=
  JX s w (fl t) ∧ JR w J (fun x => S x ∨ x ∈ dn) ∧ (w.2 20 (hd t) = a ∧ J.2.1 (hd t) = A) ∧ (w.2 21 (hd t) = 0 ∧ J.2.2 (hd t) = 0) ∧ w.1 3 ≤ s.1 3 + 20 * dn.length
theorem ST_0d {s : SM} {t : Term} {a : Int} {A : Option Term} {J : JT} {S : Int → Prop} (hT : PRT s t) (hP : PRJ s (hd t) (fl t) J S) : SJd s t a A S [] (jin (hd t) A J) (ua (ua s 20 (hd t) a) 21 (hd t) 0) := by
  obtain ⟨hA, hf, hnd, htd, hDP⟩ := hT
  obtain ⟨hKJ, hBO, hJR, hSl⟩ := hP
  have hbm := hd_mem t hA
  have hX : JX s (ua (ua s 20 (hd t) a) 21 (hd t) 0) (fl t) := ⟨eqx_ua (eqx_ua eqx.rf (by decide)) (by decide), hKJ, ⟨rfl, Int.le_refl _, fun _ _ => ⟨rfl, rfl, rfl, rfl⟩⟩, fun x hx => by
    have hxt : x ≠ hd t := fun e => hx (by rw [e]; exact hbm)
    simp [ua_2, hxt]⟩
  refine ⟨hX, fun x hx => ?_, ⟨by simp [ua_2], if_pos rfl⟩, ⟨by simp [ua_2], if_pos rfl⟩, by show s.1 3 ≤ _; simp⟩
  have hx : S x := hx.resolve_right (fun q => by cases q)
  have hxt : x ≠ hd t := fun e => hSl x hx (by rw [e]; exact hbm)
  obtain ⟨g1, g2, g3⟩ := AG_jin (J := J) (A := A) hxt
  rw [g1, g2, g3]
  exact JR_x hX hKJ hJR hSl x hx
section
variable {iv : List (Int × Int)} {L : Nat} {h0 : MH} {Ad : Int → Nat} {Tn : Int → Prop} {ρ : Int → Option Int} {k : Nat}
/-- one part more -/
theorem ST_1d {n : Nat} (hn : JSPd iv L h0 Ad Tn n) {s w : SM} {t u y : Term} {a a' : Int} {A A' : Option Term} {J J' : JT} {S : Int → Prop} {dn : List Int} {d : Nat} {F : Int → SM → Prop} (hT : PRT s t) (hP : PRJ s (hd t) (fl t) J S) (hst : SJd s t a A S dn J' w)
    (hA : ATj s (.add u y)) (hsub : ∃ r, fl t = fl (.add u y) ++ r) (hhd : hd u = hd t) (hdn : ∀ x, x ∈ dn → x ∈ fl u) (hL : s.2 9 (hd t) = 10 → na u = 1 → s.2 14 (3 * hd t) ∈ dn) (hdp : dpt y ≤ n) (hbd : s.1 3 + 20 * (dn.length + (fl y).length : Nat) ≤ 1440) (ha : aK w a' A') (hd1 : 3 * n + 45 ≤ d) (hTn : ∀ x, x ∈ fl y → Tn x) (hρn : ∀ x, ρ x ≠ none → x ∉ fl y ∧ ¬ (S x ∨ x ∈ dn))
    (hgo : ∀ r v, SJd s t a A S (dn ++ fl y) (jds s y A' J').1 v → kext w v → vks v r → kts v r = (jds s y A' J').2 → F r v) : cj iv L h0 Ad Tn ρ n d 88 [vr 307, vi (hd y), vi a'] w (qi F) := by
  obtain ⟨hX, hR, ⟨hk1, hk2⟩, ⟨hr1, hr2⟩, hb⟩ := hst
  obtain ⟨hTA, hf, hnd, htd, hDP⟩ := hT
  obtain ⟨hKJ, hBO, hJR, hSl⟩ := hP
  obtain ⟨r0, hr0⟩ := hsub
  have hndy : (fl (.add u y)).Nodup := by rw [hr0] at hnd; exact (List.nodup_append.mp hnd).1
  have hmem : ∀ x, x ∈ fl (.add u y) → x ∈ fl t := fun x hx => by rw [hr0]; exact List.mem_append_left _ hx
  have hym : ∀ x, x ∈ fl y → x ∈ fl t := fun x hx => hmem x (List.mem_append_right _ hx)
  obtain ⟨d1, d2, d3⟩ := List.nodup_append.mp hndy
  have huy : ∀ x, x ∈ fl u → x ∉ fl y := fun x hx q => d3 x hx x q rfl
  have hbu : hd t ∈ fl u := by rw [← hhd]; exact hd_mem u hA.1
  have hby : hd t ∉ fl y := huy _ hbu
  have hKw := hX.2.1
  have hPy : PRT s y := kid_T hA hndy (fun x hx => htd x (hmem x hx)) (fun x hx => hDP x (hmem x hx))
  have hBy : ∀ x, BOK w (fun x => S x ∨ x ∈ dn) (bds w (hd y) x) := fun x => by
    rw [bds_x hX]
    refine BOK_x hX (kid_B (S := S) (S' := fun x => S x ∨ x ∈ dn) hA (by rw [hhd]; exact fun e => htd _ (hmem _ (List.mem_append_left _ hbu)) (Or.inl e)) ?_ (by rw [hhd]; exact hBO) (fun x q => Or.inl q) ?_ x)
    · rw [hhd]
      have h70 := hDP (hd y) (hym _ (hd_mem y hA.2.1))
      obtain ⟨-, -, -, -, -, e6, -⟩ := hA
      have h71 : s.2 12 (hd y) = -9 ∨ ((0 ≤ s.2 12 (hd y) ∧ s.2 12 (hd y) < 3004) ∧ DP (s.2 12) 69 (s.2 12 (hd y))) := h70
      rw [e6, hhd] at h71
      rcases h71 with q | q
      · have := (AT_mem t hTA _ (hd_mem t hTA)).1
        omega
      · exact q.2
    · rw [hhd]
      intro e10 e1
      have hm := hL e10 e1
      have hm2 := (AT_mem t hTA _ (hmem _ (List.mem_append_left _ (hdn _ hm)))).1
      exact ⟨Or.inr hm, hm2⟩
  have hSy : ∀ x, (S x ∨ x ∈ dn) → x ∉ fl y := fun x hx => hx.elim (fun q w => hSl x q (hym x w)) (fun q => huy x (hdn x q))
  have spec := hn ρ y w a' A' J' (fun x => S x ∨ x ∈ dn) hdp (PRT_x hX hPy) ⟨hKw, hBy, hR, hSy⟩ ha (by push_cast at hbd; omega) ⟨hTn, hρn⟩
  refine cjm spec hd1 ?_
  rintro r v ⟨p1, p2, ⟨p3, p4⟩, p5⟩
  rw [jds_x hX hKJ] at p4 p5
  have out := jd_out (so := s.2 9) (nu := s.2 10) (td := s.2 11) (pa := s.2 14) (kk := kks s) (bd := bds s) (dpt y) y (Nat.le_refl _) hA.2.1 A' J' (hd t) hby
  obtain ⟨o1, o2, o3⟩ := p1.2.2.2 (hd t) hby
  refine hgo r v ⟨hX.tr (p1.up hym), JR_mono p5 (fun x hx => ?_), ⟨by rw [o2]; exact hk1, ?_⟩, ⟨by rw [o3]; exact hr1, ?_⟩, ?_⟩ p1.2.2.1 p3 p4
  · rcases hx with q | q
    · exact Or.inl (Or.inl q)
    · rcases List.mem_append.mp q with q | q
      · exact Or.inl (Or.inr q)
      · exact Or.inr q
  · exact out.2.1.trans hk2
  · exact out.2.2.trans hr2
  · rw [List.length_append]; push_cast; omega
end
/-- all parts judged: what the making comes to -/
theorem MP_0d {s w : SM} {t : Term} {a r : Int} {A : Option Term} {S : Int → Prop} {dn : List Int} {J : JT} {m : Term} (hst : SJd s t a A S dn J w) (hnd : (fl t).Nodup) (ha : aK s a A) (hKJ : KJs s) (hdn : ∀ x, x ∈ fl t → x ≠ hd t → x ∈ dn) (hlen : dn.length + 1 ≤ (fl t).length) {w' : SM} (hX : JX w w' []) (hb : w'.1 3 ≤ w.1 3 + 20) (hv : vks w' r) (hk : kts w' r = m) : MPOSTd s t A (J, m) S r w' := by
  obtain ⟨h1, h2, ⟨h3, h4⟩, ⟨h5, h6⟩, h7⟩ := hst
  obtain ⟨o1, o2, o3⟩ := hX.2.2.2 (hd t) (by simp)
  refine ⟨h1.tr (hX.up (fun x q => by cases q)), by omega, ⟨hv, hk⟩, JR_mono (JR_x hX h1.2.1 h2 (fun x _ q => by cases q)) (fun x hx => hx.imp id (fun q => hdn x q.1 q.2)), ⟨?_, h4⟩, ?_⟩
  · rw [o2, h3]
    exact aK_x hX.2.2.1 h1.2.1 (aK_x h1.2.2.1 hKJ ha)
  · show w'.2 21 (hd t) = J.2.2 (hd t) ∧ 0 ≤ J.2.2 (hd t) ∧ J.2.2 (hd t) ≤ 6
    rw [o3, h5, h6]
    omega
/-- .. with a reason of its own -/
theorem MP_rd {s w : SM} {t : Term} {a r z : Int} {A : Option Term} {S : Int → Prop} {dn : List Int} {J : JT} {m : Term} (hst : SJd s t a A S dn J w) (hnd : (fl t).Nodup) (ha : aK s a A) (hKJ : KJs s) (hSl : ∀ x, S x → x ∉ fl t) (hb0 : hd t ∈ fl t) (hbd : hd t ∉ dn) (hz : 0 ≤ z ∧ z ≤ 6) (hdn : ∀ x, x ∈ fl t → x ≠ hd t → x ∈ dn) (hlen : dn.length + 1 ≤ (fl t).length) {w' : SM} (hX : JX (ua w 21 (hd t) z) w' []) (hb : w'.1 3 ≤ w.1 3 + 20) (hv : vks w' r) (hk : kts w' r = m) : MPOSTd s t A (jsr J (hd t) z, m) S r w' := by
  obtain ⟨h1, h2, ⟨h3, h4⟩, ⟨h5, h6⟩, h7⟩ := hst
  have hX0 : JX w (ua w 21 (hd t) z) (fl t) := ⟨eqx_ua eqx.rf (by decide), h1.2.1, ⟨rfl, Int.le_refl _, fun _ _ => ⟨rfl, rfl, rfl, rfl⟩⟩, fun x hx => by
    have hxt : x ≠ hd t := fun e => hx (by rw [e]; exact hb0)
    simp [ua_2, hxt]⟩
  have hX2 : JX w w' (fl t) := hX0.tr (hX.up (fun x q => by cases q))
  obtain ⟨o1, o2, o3⟩ := hX.2.2.2 (hd t) (by simp)
  have e20 : (ua w 21 (hd t) z).2 20 (hd t) = w.2 20 (hd t) := by simp [ua_2]
  have e21 : (ua w 21 (hd t) z).2 21 (hd t) = z := by simp [ua_2]
  refine ⟨h1.tr hX2, by omega, ⟨hv, hk⟩, fun x hx => ?_, ⟨?_, h4⟩, ?_⟩
  · have hxb : x ≠ hd t := by
      rcases hx with q | q
      · exact fun e => hSl x q (by rw [e]; exact hb0)
      · exact q.2
    obtain ⟨⟨a1, a2⟩, a3, a4⟩ := h2 x (hx.imp id (fun q => hdn x q.1 q.2))
    obtain ⟨b1, b2, b3⟩ := hX.2.2.2 x (by simp)
    have c1 : (ua w 21 (hd t) z).2 19 x = w.2 19 x := by simp [ua_2]
    have c2 : (ua w 21 (hd t) z).2 20 x = w.2 20 x := by simp [ua_2]
    have c3 : (ua w 21 (hd t) z).2 21 x = w.2 21 x := by simp [ua_2, hxb]
    obtain ⟨g1, g2, g3⟩ := AG_jsr (J := J) (z := z) hxb
    rw [b1, b2, b3, c1, c2, c3, g1, g2, g3]
    exact ⟨⟨kext_vk hX2.2.2.1 a1, (kext_kt hX2.2.2.1 h1.2.1 a1).trans a2⟩, aK_x hX2.2.2.1 h1.2.1 a3, a4⟩
  · rw [o2, e20, h3]
    exact aK_x hX2.2.2.1 h1.2.1 (aK_x h1.2.2.1 hKJ ha)
  · show w'.2 21 (hd t) = (if hd t = hd t then z else _) ∧ 0 ≤ (if hd t = hd t then z else _) ∧ (if hd t = hd t then z else _) ≤ 6
    rw [if_pos rfl, o3, e21]
    exact ⟨rfl, hz⟩
/-- a part gets a reason, if it has none -/
theorem ST_nd {s w w' : SM} {t : Term} {a z p : Int} {A : Option Term} {S : Int → Prop} {dn : List Int} {J : JT} (hst : SJd s t a A S dn J w) (hp : p ∈ dn) (hpt : p ∈ fl t) (hpb : p ≠ hd t) (hz : 0 ≤ z ∧ z ≤ 6) (hw : (w.2 21 p = 0 ∧ w' = ua w 21 p z) ∨ (w.2 21 p ≠ 0 ∧ (w' = w ∨ w' = ua w 21 p (w.2 21 p)))) : SJd s t a A S dn (jsn J p z) w' ∧ kext w w' := by
  obtain ⟨h1, h2, ⟨h3, h4⟩, ⟨h5, h6⟩, h7⟩ := hst
  have hj := (h2 p (Or.inr hp)).2.2.1
  have v21 : ∀ x, w'.2 21 x = if x = p ∧ w.2 21 p = 0 then z else w.2 21 x := fun x => by
    rcases hw with ⟨e, rfl⟩ | ⟨e, rfl | rfl⟩
    · simp [ua_2, e]
    · simp [e]
    · by_cases q : x = p
      · simp [ua_2, q, e]
      · simp [ua_2, q]
  have ve : eqx [] [21] w w' := by
    rcases hw with ⟨e, rfl⟩ | ⟨e, rfl | rfl⟩
    · exact eqx_ua eqx.rf (by decide)
    · exact eqx.rf
    · exact eqx_ua eqx.rf (by decide)
  have v3 := ve.1 3 (by decide)
  have v2 := ve.1 2 (by decide)
  have vK : KJs w' := by
    have := h1.2.1
    unfold KJs at this ⊢
    rw [v2, v3, ve.2 4 (by decide), ve.2 5 (by decide), ve.2 6 (by decide), ve.2 7 (by decide)]
    exact this
  have vx : kext w w' := ⟨v2.symm, by omega, fun k _ => by rw [ve.2 4 (by decide), ve.2 5 (by decide), ve.2 6 (by decide), ve.2 7 (by decide)]; exact ⟨rfl, rfl, rfl, rfl⟩⟩
  have v19 : w'.2 19 = w.2 19 := ve.2 19 (by decide)
  have v20 : w'.2 20 = w.2 20 := ve.2 20 (by decide)
  have jn : ∀ x, (jsn J p z).2.2 x = if x = p ∧ J.2.2 p = 0 then z else J.2.2 x := fun x => by
    unfold jsn
    by_cases e : J.2.2 p = 0
    · rw [if_pos e]
      show (if x = p then z else J.2.2 x) = _
      simp [e]
    · rw [if_neg e, if_neg (fun q => e q.2)]
  have j1 : (jsn J p z).1 = J.1 ∧ (jsn J p z).2.1 = J.2.1 := by
    unfold jsn
    split
    · exact ⟨rfl, rfl⟩
    · exact ⟨rfl, rfl⟩
  refine ⟨⟨h1.tr ⟨ve.up (fun y q => by cases q) (fun f q => by simp at q ⊢; omega), vK, vx, fun x hx => ?_⟩, fun x hx => ?_, ⟨by rw [v20]; exact h3, by rw [j1.2]; exact h4⟩, ⟨by rw [v21, if_neg (fun q => hpb q.1.symm)]; exact h5, by rw [jn, if_neg (fun q => hpb q.1.symm)]; exact h6⟩, by omega⟩, vx⟩
  · have hxp : x ≠ p := fun e => hx (by rw [e]; exact hpt)
    rw [v19, v20, v21, if_neg (fun q => hxp q.1)]
    exact ⟨rfl, rfl, rfl⟩
  · obtain ⟨⟨a1, a2⟩, a3, a4⟩ := h2 x hx
    rw [j1.1, j1.2, jn, v19, v20, v21, hj]
    refine ⟨⟨kext_vk vx a1, (kext_kt vx h1.2.1 a1).trans a2⟩, aK_x vx h1.2.1 a3, ?_⟩
    split
    · exact ⟨rfl, hz⟩
    · exact a4
end
section
/-! The desk judges as the function tells: most sorts. -/
def CTXd (Tn : Int → Prop) (ρ : Int → Option Int) (n : Nat) (s : SM) (t : Term) (a : Int) (A : Option Term) (J : JT) (S : Int → Prop) : Prop := dpt t ≤ n + 1 ∧ PRT s t ∧ PRJ s (hd t) (fl t) J S ∧ aK s a A ∧ s.1 3 + 20 * (fl t).length ≤ 1440 ∧ HTd Tn ρ t S
section
variable {iv : List (Int × Int)} {L : Nat} {h0 : MH} {Ad : Int → Nat} {Tn : Int → Prop} {ρ : Int → Option Int} {k : Nat} {n : Nat} {s : SM} {t : Term} {a : Int} {A : Option Term} {J : JT} {S : Int → Prop}
theorem HTm (h : CTXd Tn ρ n s t a A J S) : Tn (hd t) := h.2.2.2.2.2.1 _ (hd_mem t h.2.1.1)
theorem HTr (h : CTXd Tn ρ n s t a A J S) : ρ (hd t) = none := by
  cases e : ρ (hd t) with
  | none => rfl
  | some z => exact absurd (hd_mem t h.2.1.1) (h.2.2.2.2.2.2 (hd t) (by rw [e]; intro c; cases c)).1
theorem HTp (h : CTXd Tn ρ n s t a A J S) {y : Term} {dn : List Int} (hy : ∀ x, x ∈ fl y → x ∈ fl t) (hdn : ∀ x, x ∈ dn → x ∈ fl t) : (∀ x, x ∈ fl y → Tn x) ∧ ∀ x, ρ x ≠ none → x ∉ fl y ∧ ¬ (S x ∨ x ∈ dn) := ⟨fun x hx => h.2.2.2.2.2.1 x (hy x hx), fun x q => ⟨fun w => (h.2.2.2.2.2.2 x q).1 (hy x w), fun w => w.elim (h.2.2.2.2.2.2 x q).2 (fun w => (h.2.2.2.2.2.2 x q).1 (hdn x w))⟩⟩
/-- a reason may be given to a part that was judged -/
theorem HTq (h : CTXd Tn ρ n s t a A J S) {x : Int} (hx : x ∈ fl t) : ρ x = none := by
  cases e : ρ x with
  | none => rfl
  | some z => exact absurd hx (h.2.2.2.2.2.2 x (by rw [e]; intro c; cases c)).1
theorem by_maked {M : JT × Term} (h : CTXd Tn ρ n s t a A J S) (hM : jds s t A J = jen (s.2 9 (hd t)) (hd t) A M) (hmk : ∀ s0, SJd s t a A S [] (jin (hd t) A J) s0 → cj iv L h0 Ad Tn ρ n (3 * n + 47) 89 [vr 307, vi (hd t), vi a] s0 (qi (MPOSTd s t A M S))) : cj iv L h0 Ad Tn ρ (n + 1) (3 * (n + 1) + 45) 88 [vr 307, vi (hd t), vi a] s (qi (POSTd s t A J S)) := by
  have hTm := HTm h
  have hρm := HTr h
  obtain ⟨h1, h2, h3, h4, h5, h6⟩ := h
  exact judge_of_maked (n := 3 * n + 3) h2 h3 h4 hM h5 hTm hρm (hmk _ (ST_0d h2 h3))
/-- what stays while parts are judged -/
theorem ST_samed {dn : List Int} {J' : JT} {w : SM} (h : SJd s t a A S dn J' w) : w.2 9 = s.2 9 ∧ w.2 10 = s.2 10 ∧ w.2 11 = s.2 11 ∧ w.2 12 = s.2 12 ∧ w.2 13 = s.2 13 ∧ w.2 14 = s.2 14 ∧ w.1 2 = s.1 2 ∧ KJs w ∧ kext s w := ⟨h.1.1.2 9 (by decide), h.1.1.2 10 (by decide), h.1.1.2 11 (by decide), h.1.1.2 12 (by decide), h.1.1.2 13 (by decide), h.1.1.2 14 (by decide), h.1.1.1 2 (by decide), h.1.2.1, h.1.2.2.1⟩
theorem jsp_leafd (h : CTXd Tn ρ n s t a A J S) (h3 : s.2 9 (hd t) = 0 ∨ s.2 9 (hd t) = 1 ∨ s.2 9 (hd t) = 2) : cj iv L h0 Ad Tn ρ (n + 1) (3 * (n + 1) + 45) 88 [vr 307, vi (hd t), vi a] s (qi (POSTd s t A J S)) := by
  obtain ⟨hA, hf, hnd, htd, hDP⟩ := id h.2.1
  have hna : na t = 0 := by
    rw [hf]
    rcases h3 with e | e | e <;> rw [e] <;> rfl
  obtain ⟨b, rfl⟩ := AT_0 hA hna
  have hb := (AT_mem _ hA _ (hd_mem _ hA)).1
  have hdn : ∀ x, x ∈ fl (Term.index b) → x ≠ hd (Term.index b) → x ∈ ([] : List Int) := fun x hx hn => absurd (List.mem_singleton.mp hx) hn
  rcases h3 with e | e | e
  · refine by_maked (M := (jin (hd (Term.index b)) A J, .null)) h ?_ (fun s0 st => ?_)
    · have e : s.2 9 (b : Int) = 0 := e
      show jen (s.2 9 b) b A _ = _
      rw [if_pos e]
      rfl
    · obtain ⟨q9, -, -, -, -, -, -, qK, -⟩ := ST_samed st
      refine dmk_0 (HTm h) (by rw [q9]; exact e) ?_
      exact MP_0d st hnd h.2.2.2.1 h.2.2.1.1 hdn (Nat.le_refl 1) (JX.rf qK) (by omega) (k_const qK).1.1 (k_const qK).1.2
  · refine by_maked (M := (jin (hd (Term.index b)) A J, .result)) h ?_ (fun s0 st => ?_)
    · have e : s.2 9 (b : Int) = 1 := e
      show jen (s.2 9 b) b A _ = _
      rw [if_neg (by omega), if_pos e]
      rfl
    · obtain ⟨q9, -, -, -, -, -, -, qK, -⟩ := ST_samed st
      refine dmk_1 (HTm h) (by rw [q9]; exact e) ?_
      exact MP_0d st hnd h.2.2.2.1 h.2.2.1.1 hdn (Nat.le_refl 1) (JX.rf qK) (by omega) (k_const qK).2.1.1 (k_const qK).2.1.2
  · refine by_maked (M := (jin (hd (Term.index b)) A J, .thrown)) h ?_ (fun s0 st => ?_)
    · have e : s.2 9 (b : Int) = 2 := e
      show jen (s.2 9 b) b A _ = _
      rw [if_neg (by omega), if_neg (by omega), if_pos e]
      rfl
    · obtain ⟨q9, -, -, -, -, -, -, qK, -⟩ := ST_samed st
      refine dmk_2 (HTm h) (by rw [q9]; exact e) ?_
      exact MP_0d st hnd h.2.2.2.1 h.2.2.1.1 hdn (Nat.le_refl 1) (JX.rf qK) (by omega) (k_const qK).2.2.1 (k_const qK).2.2.2
theorem jsp_named (h : CTXd Tn ρ n s t a A J S) (e : s.2 9 (hd t) = 3) : cj iv L h0 Ad Tn ρ (n + 1) (3 * (n + 1) + 45) 88 [vr 307, vi (hd t), vi a] s (qi (POSTd s t A J S)) := by
  obtain ⟨hA, hf, hnd, htd, hDP⟩ := id h.2.1
  obtain ⟨hKJ, hBO, hJR, hSl⟩ := id h.2.2.1
  have hna : na t = 0 := by rw [hf, e]; rfl
  obtain ⟨b, rfl⟩ := AT_0 hA hna
  have hbm := hd_mem _ hA
  have hb := (AT_mem _ hA _ hbm).1
  have hdn : ∀ x, x ∈ fl (Term.index b) → x ≠ hd (Term.index b) → x ∈ ([] : List Int) := fun x hx hn => absurd (List.mem_singleton.mp hx) hn
  refine by_maked (M := jnm (s.2 9) (s.2 11) (s.2 14) (kks s) (bds s b (s.2 10 b)) b (jin (hd (Term.index b)) A J)) h ?_ (fun s0 st => ?_)
  · have e : s.2 9 (b : Int) = 3 := e
    show jen (s.2 9 b) b A _ = _
    rw [if_neg (by omega), if_neg (by omega), if_neg (by omega)]
    rfl
  · obtain ⟨q9, q10, q11, q12, q13, q14, q2, qK, qx⟩ := ST_samed st
    have hb0 : bds s0 = bds s := bds_x st.1
    refine dmk_3 (HTm h) (HTr h) (by rw [q9]; exact e) (by rw [q12]; exact hDP _ hbm) ?_
    rw [hb0, q9, q10, q11, q14]
    have hbo := hBO (s.2 10 (hd (Term.index b)))
    generalize hu2 : bds s (hd (Term.index b)) (s.2 10 (hd (Term.index b))) = u at *
    have hu3 : bds s b (s.2 10 b) = u := hu2
    rw [hu3]
    refine ⟨fun hn => ?_, fun hn _ => ?_⟩
    rotate_left
    · obtain ⟨h1, h2⟩ := hbo.resolve_left hn
      refine ⟨fun e8 => ?_, fun e8 => ?_⟩
      · obtain ⟨-, t1, t2⟩ := h2.resolve_right (fun q => by omega)
        have hM : jnm (s.2 9) (s.2 11) (s.2 14) (kks s) u b (jin (hd (Term.index b)) A J) = (jin (hd (Term.index b)) A J, kks s (s.2 11 u)) := by
          unfold jnm
          rw [if_neg hn, if_pos e8]
        rw [hM]
        have hv : vks s (s.2 11 u) := Or.inl ⟨t1, t2⟩
        exact MP_0d st hnd h.2.2.2.1 hKJ hdn (Nat.le_refl 1) (JX.rf qK) (by omega) (kext_vk qx hv) (by rw [kext_kt qx hKJ hv, kks_told ⟨t1, t2⟩])
      · obtain ⟨e10, hSp, hp1, hp2⟩ := h2.resolve_left (fun q => e8 q.1)
        obtain ⟨⟨a1, a2⟩, a3, a4⟩ := st.2.1 _ (Or.inl hSp)
        have hM : jnm (s.2 9) (s.2 11) (s.2 14) (kks s) u b (jin (hd (Term.index b)) A J) = (jin (hd (Term.index b)) A J, jsee (jin (hd (Term.index b)) A J) (s.2 14 (3 * u))) := by
          unfold jnm
          rw [if_neg hn, if_neg e8]
        rw [hM]
        have hρp : ρ (s.2 14 (3 * u)) = none := by
          cases e : ρ (s.2 14 (3 * u)) with
          | none => rfl
          | some z => exact absurd hSp (h.2.2.2.2.2.2 _ (by rw [e]; intro c; cases c)).2
        refine ⟨by rw [e10]; decide, hρp, fun q => ?_, fun q => ?_⟩
        · refine MP_0d st hnd h.2.2.2.1 hKJ hdn (Nat.le_refl 1) (JX.rf qK) (by omega) (k_const qK).1.1 ?_
          unfold jsee
          rw [if_pos (by omega)]
          exact (k_const qK).1.2
        · refine MP_0d st hnd h.2.2.2.1 hKJ hdn (Nat.le_refl 1) (JX.rf qK) (by omega) a1 ?_
          unfold jsee
          rw [if_neg (by omega)]
          exact a2
    · have hM : jnm (s.2 9) (s.2 11) (s.2 14) (kks s) u b (jin (hd (Term.index b)) A J) = (jsr (jin (hd (Term.index b)) A J) (hd (Term.index b)) 1, .null) := by
        unfold jnm
        rw [if_pos hn]
        rfl
      rw [hM]
      have qK' : KJs (ua s0 21 (hd (Term.index b)) 1) := qK
      exact MP_rd st hnd h.2.2.2.1 hKJ hSl hbm (by simp) ⟨by omega, by omega⟩ hdn (Nat.le_refl 1) (JX.rf qK') (by show s0.1 3 ≤ s0.1 3 + 20; omega) (k_const qK').1.1 (k_const qK').1.2
/-- the first part of any -/
theorem ST_ad (hn : JSPd iv L h0 Ad Tn n) (h : CTXd Tn ρ n s t a A J S) {b : Nat} {x : Term} {w : SM} {a' : Int} {A' : Option Term} {J' : JT} {d : Nat} {F : Int → SM → Prop} (hT1 : ATj s (.add (.index b) x)) (hsub : ∃ r, fl t = fl (.add (.index b) x) ++ r) (hhd : (b : Int) = hd t) (hdp : dpt x ≤ n) (hst : SJd s t a A S [] J' w) (ha : aK w a' A') (hd1 : 3 * n + 45 ≤ d)
    (hgo : ∀ r v, SJd s t a A S ([] ++ fl x) (jds s x A' J').1 v → kext w v → vks v r → kts v r = (jds s x A' J').2 → F r v) : cj iv L h0 Ad Tn ρ n d 88 [vr 307, vi (hd x), vi a'] w (qi F) := by
  obtain ⟨r0, hr0⟩ := hsub
  obtain ⟨t1, t2⟩ := HTp h (y := x) (dn := []) (fun v hv => by rw [hr0]; exact List.mem_append_left _ (List.mem_append_right _ hv)) (fun v hv => by cases hv)
  refine ST_1d hn h.2.1 h.2.2.1 hst hT1 ⟨r0, hr0⟩ hhd (fun x q => by cases q) (fun _ q => absurd q (by show ¬ ((0 : Int) = 1); decide)) hdp ?_ ha hd1 t1 t2 hgo
  have h5 := h.2.2.2.2.1
  have := len1 (b := b) (x := x)
  rw [hr0, List.length_append] at h5
  push_cast at h5 ⊢
  simp only [List.length_nil]
  omega
theorem jsp_toldd (hn : JSPd iv L h0 Ad Tn n) (h : CTXd Tn ρ n s t a A J S) (e : s.2 9 (hd t) = 15) : cj iv L h0 Ad Tn ρ (n + 1) (3 * (n + 1) + 45) 88 [vr 307, vi (hd t), vi a] s (qi (POSTd s t A J S)) := by
  obtain ⟨hA, hf, hnd, htd, hDP⟩ := id h.2.1
  obtain ⟨hKJ, hBO, hJR, hSl⟩ := id h.2.2.1
  have hna : na t = 1 := by rw [hf, e]; rfl
  obtain ⟨b, x, rfl⟩ := AT_1 hA hna
  have hbm := hd_mem _ hA
  have hb := (AT_mem _ hA _ hbm).1
  have hdx : dpt x ≤ n := by have := h.1; have e : dpt (Term.add (Term.index b) x) = max 1 (dpt x + 1) := rfl; omega
  have htt := htd _ hbm (Or.inr e)
  have e' : s.2 9 (b : Int) = 15 := e
  refine by_maked (M := ((jds s x (some (kks s (s.2 11 b))) (jin (hd (Term.add (Term.index b) x)) A J)).1, kks s (s.2 11 b))) h ?_ (fun s0 st => ?_)
  · show jen (s.2 9 b) b A _ = _
    rw [if_neg (by omega), if_pos e']
    rfl
  · obtain ⟨q9, q10, q11, q12, q13, q14, q2, qK, qx⟩ := ST_samed st
    have hv : vks s (s.2 11 (hd (Term.add (Term.index b) x))) := Or.inl htt
    refine dmk_11 (HTm h) (by rw [q9]; exact e) ?_
    rw [q14, (kid1 hA).1, q11]
    refine ST_ad hn h hA ⟨[], by simp⟩ rfl hdx st (A' := some (kks s (s.2 11 b))) ⟨kext_vk qx hv, by rw [kext_kt qx hKJ hv]; exact (kks_told htt).symm⟩ (by omega) (fun r v st1 hx1 hv1 hk1 => ?_)
    obtain ⟨r9, r10, r11, r12, r13, r14, r2, rK, rx⟩ := ST_samed st1
    rw [r11]
    exact MP_0d st1 hnd h.2.2.2.1 hKJ dn1 (by rw [len1]; simp; omega) (JX.rf rK) (by omega) (kext_vk rx hv) (by rw [kext_kt rx hKJ hv]; exact (kks_told htt).symm)
theorem jsp_halfd (hn : JSPd iv L h0 Ad Tn n) (h : CTXd Tn ρ n s t a A J S) (e : s.2 9 (hd t) = 13 ∨ s.2 9 (hd t) = 14) : cj iv L h0 Ad Tn ρ (n + 1) (3 * (n + 1) + 45) 88 [vr 307, vi (hd t), vi a] s (qi (POSTd s t A J S)) := by
  obtain ⟨hA, hf, hnd, htd, hDP⟩ := id h.2.1
  obtain ⟨hKJ, hBO, hJR, hSl⟩ := id h.2.2.1
  have hna : na t = 1 := by rw [hf]; rcases e with e | e <;> rw [e] <;> rfl
  obtain ⟨b, x, rfl⟩ := AT_1 hA hna
  have hbm := hd_mem _ hA
  have hb := (AT_mem _ hA _ hbm).1
  have hdx : dpt x ≤ n := by have := h.1; have e : dpt (Term.add (Term.index b) x) = max 1 (dpt x + 1) := rfl; omega
  have e' : s.2 9 (b : Int) = 13 ∨ s.2 9 (b : Int) = 14 := e
  have hxm := hd_mem x hA.2.1
  have hxt : hd x ∈ fl (Term.add (Term.index b) x) := List.mem_append_right _ hxm
  have hp := (AT_mem _ hA _ hxt).1
  have hpb : hd x ≠ hd (Term.add (Term.index b) x) := fun q => (List.nodup_append.mp hnd).2.2 _ (List.mem_singleton.mpr rfl) _ hxm q.symm
  refine by_maked (M := jhf (jds s x) (hd x) (s.2 9 b) (jin (hd (Term.add (Term.index b) x)) A J)) h ?_ (fun s0 st => ?_)
  · show jen (s.2 9 b) b A _ = _
    rw [if_neg (by omega), if_neg (by omega)]
    rfl
  · obtain ⟨q9, q10, q11, q12, q13, q14, q2, qK, qx⟩ := ST_samed st
    refine dmk_10 (HTm h) (by rw [q9]; omega) (D94 (HTm h) (by rw [q9]; omega) ?_)
    rw [q14, (kid1 hA).1]
    refine ST_ad hn h hA ⟨[], by simp⟩ rfl hdx st (A' := none) rfl (by omega) (fun r v st1 hx1 hv1 hk1 => ?_)
    obtain ⟨r9, r10, r11, r12, r13, r14, r2, rK, rx⟩ := ST_samed st1
    have rl := hv1.lt rK.1.1.2 rK.2.1
    have rb := st1.2.2.2.2
    have h5 := h.2.2.2.2.1
    rw [len1] at h5
    rw [List.nil_append] at rb
    have hst0 := st1
    rw [r9]
    generalize hj : jds s x none (jin (hd (Term.add (Term.index b) x)) A J) = jj at *
    have fin : ∀ (m : Term) (J2 : JT) (r2 : Int) (v2 : SM), SJd s (Term.add (Term.index b) x) a A S ([] ++ fl x) J2 v2 → v2.1 3 ≤ v.1 3 → jhf (jds s x) (hd x) (s.2 9 b) (jin (hd (Term.add (Term.index b) x)) A J) = (J2, m) → vks v2 r2 → kts v2 r2 = m → MPOSTd s (Term.add (Term.index b) x) A (jhf (jds s x) (hd x) (s.2 9 b) (jin (hd (Term.add (Term.index b) x)) A J)) S r2 v2 := fun m J2 r2 v2 st2 hb2 hM hv2 hk2 => by
      rw [hM]
      exact MP_0d st2 hnd h.2.2.2.1 hKJ dn1 (by rw [len1]; simp; omega) (JX.rf (ST_samed st2).2.2.2.2.2.2.2.1) (by omega) hv2 hk2
    have other : ∀ w', (v.2 21 (hd x) = 0 ∧ w' = ua v 21 (hd x) 3) ∨ (v.2 21 (hd x) ≠ 0 ∧ (w' = v ∨ w' = ua v 21 (hd x) (v.2 21 (hd x)))) → kts v r ≠ .null → (∀ p q, kts v r ≠ .mul p q) → MPOSTd s (Term.add (Term.index b) x) A (jhf (jds s x) (hd x) (s.2 9 b) (jin (hd (Term.add (Term.index b) x)) A J)) S 0 w' := fun w' hw hn0 hnm => by
      obtain ⟨st2, vx⟩ := ST_nd (z := 3) hst0 hxm hxt hpb ⟨by omega, by omega⟩ hw
      refine fin .null _ 0 w' st2 (by rcases hw with ⟨-, rfl⟩ | ⟨-, rfl | rfl⟩ <;> exact Int.le_refl _) ?_ (k_const (ST_samed st2).2.2.2.2.2.2.2.1).1.1 (k_const (ST_samed st2).2.2.2.2.2.2.2.1).1.2
      unfold jhf
      rw [hj]
      rw [hk1] at hn0 hnm
      cases h2 : jj.2 with
      | null => exact absurd h2 hn0
      | mul p q => exact absurd h2 (hnm p q)
      | _ => rfl
    refine ⟨by rw [q9], by rw [r14, (kid1 hA).1]; exact HTq h hxt, by omega, ?_⟩
    rw [r14, (kid1 hA).1]
    rcases kt_cases rK hv1 with ⟨k4, kr, kk⟩ | ⟨k4, kk⟩ | ⟨k4, kk⟩ | ⟨k4, kk, va, vb⟩ | ⟨k4, kk, va, vb⟩
    · have hM : jhf (jds s x) (hd x) (s.2 9 b) (jin (hd (Term.add (Term.index b) x)) A J) = (jj.1, .null) := by
        unfold jhf
        rw [hj]
        rw [hk1] at kk
        rw [kk]
      have g := fin .null jj.1 0 v hst0 (Int.le_refl _) hM (k_const rK).1.1 (k_const rK).1.2
      exact ⟨fun _ => ⟨fun _ => g, fun _ => ⟨fun _ => g, fun q => absurd k4 q⟩⟩, fun q => by omega⟩
    · exact ⟨fun _ => ⟨fun q => other _ (Or.inr ⟨q, Or.inl rfl⟩) (by rw [kk]; intro c; cases c) (by rw [kk]; intro p q c; cases c), fun q => ⟨fun q0 => by omega, fun _ => other _ (Or.inl ⟨q, rfl⟩) (by rw [kk]; intro c; cases c) (by rw [kk]; intro p q c; cases c)⟩⟩, fun q => by omega⟩
    · exact ⟨fun _ => ⟨fun q => other _ (Or.inr ⟨q, Or.inl rfl⟩) (by rw [kk]; intro c; cases c) (by rw [kk]; intro p q c; cases c), fun q => ⟨fun q0 => by omega, fun _ => other _ (Or.inl ⟨q, rfl⟩) (by rw [kk]; intro c; cases c) (by rw [kk]; intro p q c; cases c)⟩⟩, fun q => by omega⟩
    · exact ⟨fun _ => ⟨fun q => other _ (Or.inr ⟨q, Or.inl rfl⟩) (by rw [kk]; intro c; cases c) (by rw [kk]; intro p q c; cases c), fun q => ⟨fun q0 => by omega, fun _ => other _ (Or.inl ⟨q, rfl⟩) (by rw [kk]; intro c; cases c) (by rw [kk]; intro p q c; cases c)⟩⟩, fun q => by omega⟩
    · have hM : jhf (jds s x) (hd x) (s.2 9 b) (jin (hd (Term.add (Term.index b) x)) A J) = (jj.1, if s.2 9 b = 13 then kts v (v.2 5 r) else kts v (v.2 6 r)) := by
        unfold jhf
        rw [hj]
        rw [hk1] at kk
        rw [kk]
      refine ⟨fun q => absurd k4 q, fun _ => ⟨fun q => ?_, fun q => ?_⟩⟩
      · exact fin _ jj.1 _ v hst0 (Int.le_refl _) hM vb (by rw [if_neg (show ¬ s.2 9 (b : Int) = 13 from q)])
      · exact fin _ jj.1 _ v hst0 (Int.le_refl _) hM va (by rw [if_pos (show s.2 9 (b : Int) = 13 from q)])
end

section
variable {iv : List (Int × Int)} {L : Nat} {h0 : MH} {Ad : Int → Nat} {Tn : Int → Prop} {ρ : Int → Option Int} {k : Nat} {n : Nat} {s : SM} {t : Term} {a : Int} {A : Option Term} {J : JT} {S : Int → Prop}
/-- the second part -/
theorem ST_bd (hn : JSPd iv L h0 Ad Tn n) (h : CTXd Tn ρ n s t a A J S) {b : Nat} {x y : Term} {w : SM} {a' : Int} {A' : Option Term} {J' : JT} {d : Nat} {F : Int → SM → Prop} (hT1 : ATj s (.add (.add (.index b) x) y)) (hsub : ∃ r, fl t = fl (.add (.add (.index b) x) y) ++ r) (hhd : (b : Int) = hd t) (hdp : dpt y ≤ n) (hst : SJd s t a A S ([] ++ fl x) J' w) (ha : aK w a' A') (hd1 : 3 * n + 45 ≤ d)
    (hgo : ∀ r v, SJd s t a A S (([] ++ fl x) ++ fl y) (jds s y A' J').1 v → kext w v → vks v r → kts v r = (jds s y A' J').2 → F r v) : cj iv L h0 Ad Tn ρ n d 88 [vr 307, vi (hd y), vi a'] w (qi F) := by
  obtain ⟨r0, hr0⟩ := hsub
  obtain ⟨t1, t2⟩ := HTp h (y := y) (dn := [] ++ fl x) (fun v hv => by rw [hr0]; exact List.mem_append_left _ (List.mem_append_right _ hv)) (fun v hv => by rw [hr0]; exact List.mem_append_left _ (List.mem_append_left _ (List.mem_append_right _ hv)))
  refine ST_1d hn h.2.1 h.2.2.1 hst hT1 ⟨r0, hr0⟩ hhd (fun v q => List.mem_append_right _ q) (fun _ _ => ?_) hdp ?_ ha hd1 t1 t2 hgo
  · have := (kid1 hT1.1).1
    have e : hd (Term.add (Term.index b) x) = hd t := hhd
    rw [e] at this
    rw [this]
    exact hd_mem x hT1.1.2.1
  · have h5 := h.2.2.2.2.1
    have := len2 (b := b) (x := x) (y := y)
    rw [hr0, List.length_append] at h5
    push_cast at h5 ⊢
    simp only [List.nil_append]
    omega
/-- the third part -/
theorem ST_cd (hn : JSPd iv L h0 Ad Tn n) (h : CTXd Tn ρ n s t a A J S) {b : Nat} {x y z : Term} {w : SM} {a' : Int} {A' : Option Term} {J' : JT} {d : Nat} {F : Int → SM → Prop} (hT1 : ATj s (.add (.add (.add (.index b) x) y) z)) (hsub : ∃ r, fl t = fl (.add (.add (.add (.index b) x) y) z) ++ r) (hhd : (b : Int) = hd t) (hdp : dpt z ≤ n) (hst : SJd s t a A S (([] ++ fl x) ++ fl y) J' w) (ha : aK w a' A') (hd1 : 3 * n + 45 ≤ d)
    (hgo : ∀ r v, SJd s t a A S ((([] ++ fl x) ++ fl y) ++ fl z) (jds s z A' J').1 v → kext w v → vks v r → kts v r = (jds s z A' J').2 → F r v) : cj iv L h0 Ad Tn ρ n d 88 [vr 307, vi (hd z), vi a'] w (qi F) := by
  obtain ⟨r0, hr0⟩ := hsub
  obtain ⟨t1, t2⟩ := HTp h (y := z) (dn := ([] ++ fl x) ++ fl y) (fun v hv => by rw [hr0]; exact List.mem_append_left _ (List.mem_append_right _ hv)) (fun v hv => by
    rw [hr0]
    rcases List.mem_append.mp hv with q | q
    · exact List.mem_append_left _ (List.mem_append_left _ (List.mem_append_left _ (List.mem_append_right _ q)))
    · exact List.mem_append_left _ (List.mem_append_left _ (List.mem_append_right _ q)))
  refine ST_1d hn h.2.1 h.2.2.1 hst hT1 ⟨r0, hr0⟩ hhd (fun v q => ?_) (fun _ q => absurd q (by show ¬ ((0 : Int) + 1 + 1 = 1); decide)) hdp ?_ ha hd1 t1 t2 hgo
  · rcases List.mem_append.mp q with q | q
    · exact List.mem_append_left _ (List.mem_append_right _ q)
    · exact List.mem_append_right _ q
  · have h5 := h.2.2.2.2.1
    have := len3 (b := b) (x := x) (y := y) (z := z)
    rw [hr0, List.length_append] at h5
    push_cast at h5 ⊢
    simp only [List.nil_append, List.length_append]
    omega
theorem jsp_reckd (hn : JSPd iv L h0 Ad Tn n) (h : CTXd Tn ρ n s t a A J S) (e : s.2 9 (hd t) = 4 ∨ s.2 9 (hd t) = 5 ∨ s.2 9 (hd t) = 6 ∨ s.2 9 (hd t) = 7) : cj iv L h0 Ad Tn ρ (n + 1) (3 * (n + 1) + 45) 88 [vr 307, vi (hd t), vi a] s (qi (POSTd s t A J S)) := by
  obtain ⟨hA, hf, hnd, htd, hDP⟩ := id h.2.1
  obtain ⟨hKJ, hBO, hJR, hSl⟩ := id h.2.2.1
  have hna : na t = 2 := by rw [hf]; rcases e with e | e | e | e <;> rw [e] <;> rfl
  obtain ⟨b, x, y, rfl⟩ := AT_2 hA hna
  have hbm := hd_mem _ hA
  have hb := (AT_mem _ hA _ hbm).1
  obtain ⟨hdx, hdy⟩ := dpt2 h.1
  have e' : s.2 9 (b : Int) = 4 ∨ s.2 9 (b : Int) = 5 ∨ s.2 9 (b : Int) = 6 ∨ s.2 9 (b : Int) = 7 := e
  refine by_maked (M := ((jds s y (some .result) (jds s x (some .result) (jin (hd (Term.add (Term.add (Term.index b) x) y)) A J)).1).1, if s.2 9 b = 7 then .thrown else .result)) h ?_ (fun s0 st => ?_)
  · show jen (s.2 9 b) b A _ = _
    rw [if_neg (by omega), if_neg (by omega), if_neg (by omega)]
    rfl
  · obtain ⟨q9, q10, q11, q12, q13, q14, q2, qK, qx⟩ := ST_samed st
    refine dmk_4 (HTm h) (by rw [q9]; exact e) ?_
    rw [q14, (kid2 hA).1]
    refine ST_ad hn h hA.1 ⟨_, rfl⟩ rfl hdx st (A' := some .result) (k_const qK).2.1 (by omega) (fun r v st1 hx1 hv1 hk1 => ?_)
    obtain ⟨r9, r10, r11, r12, r13, r14, r2, rK, rx⟩ := ST_samed st1
    refine ⟨by rw [r9, q9], ?_⟩
    rw [r14, (kid2 hA).2]
    refine ST_bd hn h hA ⟨[], by simp⟩ rfl hdy st1 (A' := some .result) (k_const rK).2.1 (by omega) (fun r' u st2 hx2 hv2 hk2 => ?_)
    obtain ⟨u9, u10, u11, u12, u13, u14, u2, uK, ux⟩ := ST_samed st2
    rw [u9]
    refine ⟨fun q => ?_, fun q => ?_⟩
    · rw [if_neg (show ¬ s.2 9 (b : Int) = 7 from q)]
      exact MP_0d st2 hnd h.2.2.2.1 hKJ dn2 (by rw [len2]; simp; omega) (JX.rf uK) (by omega) (k_const uK).2.1.1 (k_const uK).2.1.2
    · rw [if_pos (show s.2 9 (b : Int) = 7 from q)]
      exact MP_0d st2 hnd h.2.2.2.1 hKJ dn2 (by rw [len2]; simp; omega) (JX.rf uK) (by omega) (k_const uK).2.2.1 (k_const uK).2.2.2
theorem jsp_letd (hn : JSPd iv L h0 Ad Tn n) (h : CTXd Tn ρ n s t a A J S) (e : s.2 9 (hd t) = 10) : cj iv L h0 Ad Tn ρ (n + 1) (3 * (n + 1) + 45) 88 [vr 307, vi (hd t), vi a] s (qi (POSTd s t A J S)) := by
  obtain ⟨hA, hf, hnd, htd, hDP⟩ := id h.2.1
  obtain ⟨hKJ, hBO, hJR, hSl⟩ := id h.2.2.1
  have hna : na t = 2 := by rw [hf, e]; rfl
  obtain ⟨b, x, y, rfl⟩ := AT_2 hA hna
  have hbm := hd_mem _ hA
  have hb := (AT_mem _ hA _ hbm).1
  obtain ⟨hdx, hdy⟩ := dpt2 h.1
  have e' : s.2 9 (b : Int) = 10 := e
  refine by_maked (M := jds s y A (jds s x none (jin (hd (Term.add (Term.add (Term.index b) x) y)) A J)).1) h ?_ (fun s0 st => ?_)
  · show jen (s.2 9 b) b A _ = _
    rw [if_neg (by omega), if_pos e']
    rfl
  · obtain ⟨q9, q10, q11, q12, q13, q14, q2, qK, qx⟩ := ST_samed st
    refine dmk_7 (HTm h) (by rw [q9]; exact e) ?_
    rw [q14, (kid2 hA).1]
    refine ST_ad hn h hA.1 ⟨_, rfl⟩ rfl hdx st (A' := none) rfl (by omega) (fun r v st1 hx1 hv1 hk1 => ?_)
    obtain ⟨r9, r10, r11, r12, r13, r14, r2, rK, rx⟩ := ST_samed st1
    refine ⟨by rw [r9, q9], ?_⟩
    rw [r14, (kid2 hA).2]
    refine ST_bd hn h hA ⟨[], by simp⟩ rfl hdy st1 (A' := A) (aK_x rx hKJ h.2.2.2.1) (by omega) (fun r' u st2 hx2 hv2 hk2 => ?_)
    obtain ⟨u9, u10, u11, u12, u13, u14, u2, uK, ux⟩ := ST_samed st2
    exact MP_0d st2 hnd h.2.2.2.1 hKJ dn2 (by rw [len2]; simp; omega) (JX.rf uK) (by omega) hv2 hk2
theorem jsp_used (hn : JSPd iv L h0 Ad Tn n) (h : CTXd Tn ρ n s t a A J S) (e : s.2 9 (hd t) = 9) : cj iv L h0 Ad Tn ρ (n + 1) (3 * (n + 1) + 45) 88 [vr 307, vi (hd t), vi a] s (qi (POSTd s t A J S)) := by
  obtain ⟨hA, hf, hnd, htd, hDP⟩ := id h.2.1
  obtain ⟨hKJ, hBO, hJR, hSl⟩ := id h.2.2.1
  have hna : na t = 2 := by rw [hf, e]; rfl
  obtain ⟨b, x, y, rfl⟩ := AT_2 hA hna
  have hbm := hd_mem _ hA
  have hb := (AT_mem _ hA _ hbm).1
  obtain ⟨hdx, hdy⟩ := dpt2 h.1
  have e' : s.2 9 (b : Int) = 9 := e
  have hxm := hd_mem x hA.1.2.1
  have hxt : hd x ∈ fl (Term.add (Term.add (Term.index b) x) y) := List.mem_append_left _ (List.mem_append_right _ hxm)
  have hp := (AT_mem _ hA _ hxt).1
  have hnd1 := (List.nodup_append.mp hnd).1
  have hpb : hd x ≠ hd (Term.add (Term.add (Term.index b) x) y) := fun q => (List.nodup_append.mp hnd1).2.2 _ (List.mem_singleton.mpr rfl) _ hxm q.symm
  refine by_maked (M := jus (jds s x) (jds s y) (hd x) (jin (hd (Term.add (Term.add (Term.index b) x) y)) A J)) h ?_ (fun s0 st => ?_)
  · show jen (s.2 9 b) b A _ = _
    rw [if_pos e']
    rfl
  · obtain ⟨q9, q10, q11, q12, q13, q14, q2, qK, qx⟩ := ST_samed st
    refine dmk_6 (HTm h) (by rw [q9]; exact e) (D91 (HTm h) (by rw [q9]; exact e) ?_)
    rw [q14, (kid2 hA).1]
    refine ST_ad hn h hA.1 ⟨_, rfl⟩ rfl hdx st (A' := none) rfl (by omega) (fun r v st1 hx1 hv1 hk1 => ?_)
    obtain ⟨r9, r10, r11, r12, r13, r14, r2, rK, rx⟩ := ST_samed st1
    have rl := hv1.lt rK.1.1.2 rK.2.1
    generalize hj : jds s x none (jin (hd (Term.add (Term.add (Term.index b) x) y)) A J) = jj at *
    -- the second part asked for UNKNOWN
    have unk : ∀ (J2 : JT) (v2 : SM), SJd s (Term.add (Term.add (Term.index b) x) y) a A S ([] ++ fl x) J2 v2 → jus (jds s x) (jds s y) (hd x) (jin (hd (Term.add (Term.add (Term.index b) x) y)) A J) = ((jds s y (some .null) J2).1, .null) → cj iv L h0 Ad Tn ρ n (3 * n + 45) 88 [vr 307, vi (hd y), vi 0] v2 (qi fun _ w => MPOSTd s (Term.add (Term.add (Term.index b) x) y) A (jus (jds s x) (jds s y) (hd x) (jin (hd (Term.add (Term.add (Term.index b) x) y)) A J)) S 0 w) := fun J2 v2 st2 hM => by
      refine ST_bd hn h hA ⟨[], by simp⟩ rfl hdy st2 (A' := some .null) (k_const (ST_samed st2).2.2.2.2.2.2.2.1).1 (Nat.le_refl _) (fun r' u st3 hx3 hv3 hk3 => ?_)
      obtain ⟨u9, u10, u11, u12, u13, u14, u2, uK, ux⟩ := ST_samed st3
      rw [hM]
      exact MP_0d st3 hnd h.2.2.2.1 hKJ dn2 (by rw [len2]; simp; omega) (JX.rf uK) (by omega) (k_const uK).1.1 (k_const uK).1.2
    have other : ∀ w', (v.2 21 (hd x) = 0 ∧ w' = ua v 21 (hd x) 2) ∨ (v.2 21 (hd x) ≠ 0 ∧ (w' = v ∨ w' = ua v 21 (hd x) (v.2 21 (hd x)))) → kts v r ≠ .null → (∀ p q, kts v r ≠ .add p q) → cj iv L h0 Ad Tn ρ n (3 * n + 45) 88 [vr 307, vi (hd y), vi 0] w' (qi fun _ w => MPOSTd s (Term.add (Term.add (Term.index b) x) y) A (jus (jds s x) (jds s y) (hd x) (jin (hd (Term.add (Term.add (Term.index b) x) y)) A J)) S 0 w) := fun w' hw hn0 hnm => by
      obtain ⟨st2, vx⟩ := ST_nd (z := 2) st1 hxm hxt hpb ⟨by omega, by omega⟩ hw
      refine unk _ w' st2 ?_
      unfold jus
      rw [hj]
      rw [hk1] at hn0 hnm
      cases h2 : jj.2 with
      | null => exact absurd h2 hn0
      | add p q => exact absurd h2 (hnm p q)
      | _ => rfl
    have rb := st1.2.2.2.2
    have h5 := h.2.2.2.2.1
    rw [len2] at h5
    rw [List.nil_append] at rb
    have hM0 := (k_const rK).1.2
    refine ⟨by rw [r9, q9], by rw [r14, (kid2 hA).1]; exact HTq h hxt, by omega, ?_⟩
    rw [r14, (kid2 hA).1, (kid2 hA).2]
    rcases kt_cases rK hv1 with ⟨k4, kr, kk⟩ | ⟨k4, kk⟩ | ⟨k4, kk⟩ | ⟨k4, kk, va, vb⟩ | ⟨k4, kk, va, vb⟩
    · have g := unk jj.1 v st1 (by
        unfold jus
        rw [hj]
        rw [hk1] at kk
        rw [kk])
      exact ⟨fun _ => ⟨fun _ => g, fun _ => ⟨fun _ => g, fun q => absurd k4 q⟩⟩, fun q => by omega⟩
    · exact ⟨fun _ => ⟨fun q => other v (Or.inr ⟨q, Or.inl rfl⟩) (by rw [kk]; intro c; cases c) (by rw [kk]; intro p q c; cases c), fun q => ⟨fun q0 => by omega, fun _ => other _ (Or.inl ⟨q, rfl⟩) (by rw [kk]; intro c; cases c) (by rw [kk]; intro p q c; cases c)⟩⟩, fun q => by omega⟩
    · exact ⟨fun _ => ⟨fun q => other v (Or.inr ⟨q, Or.inl rfl⟩) (by rw [kk]; intro c; cases c) (by rw [kk]; intro p q c; cases c), fun q => ⟨fun q0 => by omega, fun _ => other _ (Or.inl ⟨q, rfl⟩) (by rw [kk]; intro c; cases c) (by rw [kk]; intro p q c; cases c)⟩⟩, fun q => by omega⟩
    · refine ⟨fun q => absurd k4 q, fun _ => ST_bd hn h hA ⟨[], by simp⟩ rfl hdy st1 (A' := some (kts v (v.2 5 r))) ⟨va, rfl⟩ (Nat.le_refl _) (fun r' u st2 hx2 hv2 hk2 => ?_)⟩
      obtain ⟨u9, u10, u11, u12, u13, u14, u2, uK, ux⟩ := ST_samed st2
      have hM : jus (jds s x) (jds s y) (hd x) (jin (hd (Term.add (Term.add (Term.index b) x) y)) A J) = ((jds s y (some (kts v (v.2 5 r))) jj.1).1, kts v (v.2 6 r)) := by
        unfold jus
        rw [hj]
        rw [hk1] at kk
        rw [kk]
      rw [hM, (hx2.2.2 r rl.2).2.2.1]
      exact MP_0d st2 hnd h.2.2.2.1 hKJ dn2 (by rw [len2]; simp; omega) (JX.rf uK) (by omega) (kext_vk hx2 vb) (kext_kt hx2 rK vb)
    · exact ⟨fun _ => ⟨fun q => other v (Or.inr ⟨q, Or.inl rfl⟩) (by rw [kk]; intro c; cases c) (by rw [kk]; intro p q c; cases c), fun q => ⟨fun q0 => by omega, fun _ => other _ (Or.inl ⟨q, rfl⟩) (by rw [kk]; intro c; cases c) (by rw [kk]; intro p q c; cases c)⟩⟩, fun q => by omega⟩
end
end
section
/-! The desk judges as the function tells: DEF, PAIR, PICK; then every tree. -/
section
variable {iv : List (Int × Int)} {L : Nat} {h0 : MH} {Ad : Int → Nat} {Tn : Int → Prop} {ρ : Int → Option Int} {k : Nat} {n : Nat} {s : SM} {t : Term} {a : Int} {A : Option Term} {J : JT} {S : Int → Prop}
theorem jsr_0 {J : JT} {b : Int} (h : J.2.2 b = 0) : jsr J b 0 = J := by
  refine Prod.ext rfl (Prod.ext rfl (funext fun x => ?_))
  show (if x = b then (0 : Int) else J.2.2 x) = J.2.2 x
  split
  · rename_i e; rw [e, h]
  · rfl
theorem jsp_defd (hn : JSPd iv L h0 Ad Tn n) (h : CTXd Tn ρ n s t a A J S) (e : s.2 9 (hd t) = 8) : cj iv L h0 Ad Tn ρ (n + 1) (3 * (n + 1) + 45) 88 [vr 307, vi (hd t), vi a] s (qi (POSTd s t A J S)) := by
  obtain ⟨hA, hf, hnd, htd, hDP⟩ := id h.2.1
  obtain ⟨hKJ, hBO, hJR, hSl⟩ := id h.2.2.1
  have hna : na t = 1 := by rw [hf, e]; rfl
  obtain ⟨b, x, rfl⟩ := AT_1 hA hna
  have hbm := hd_mem _ hA
  have hb := (AT_mem _ hA _ hbm).1
  have hdx : dpt x ≤ n := by have := h.1; have e : dpt (Term.add (Term.index b) x) = max 1 (dpt x + 1) := rfl; omega
  have htt := htd _ hbm (Or.inl e)
  have e' : s.2 9 (b : Int) = 8 := e
  have hbx : hd (Term.add (Term.index b) x) ∉ [] ++ fl x := fun q => (List.nodup_append.mp hnd).2.2 _ (List.mem_singleton.mpr rfl) _ q rfl
  have h5 := h.2.2.2.2.1
  rw [len1] at h5
  refine by_maked (M := jdf (jds s x) b (kks s (s.2 11 b)) A (jin (hd (Term.add (Term.index b) x)) A J)) h ?_ (fun s0 st => ?_)
  · show jen (s.2 9 b) b A _ = _
    rw [if_pos e']
    rfl
  · obtain ⟨q9, q10, q11, q12, q13, q14, q2, qK, qx⟩ := ST_samed st
    have hv : vks s (s.2 11 (hd (Term.add (Term.index b) x))) := Or.inl htt
    have hk0 : kks s (s.2 11 b) = kts s (s.2 11 (hd (Term.add (Term.index b) x))) := kks_told htt
    refine dmk_5 (HTm h) (by rw [q9]; exact e) (D90 (HTm h) (HTr h) (by rw [q9]; exact e) ?_)
    rw [q14, (kid1 hA).1]
    have plain : ∀ (a' : Int) (A' : Option Term), aK s0 a' A' → jdf (jds s x) b (kks s (s.2 11 b)) A (jin (hd (Term.add (Term.index b) x)) A J) = ((jds s x A' (jin (hd (Term.add (Term.index b) x)) A J)).1, kmk 3 (kks s (s.2 11 b)) (jds s x A' (jin (hd (Term.add (Term.index b) x)) A J)).2) →
        cj iv L h0 Ad Tn ρ n (3 * n + 45) 88 [vr 307, vi (hd x), vi a'] s0 (qi fun r v => cj iv L h0 Ad Tn ρ n (3 * n + 45) 65 [vr 307, vi 3, vi (s0.2 11 (hd (Term.add (Term.index b) x))), vi r] v (qi fun r2 w => MPOSTd s (Term.add (Term.index b) x) A (jdf (jds s x) b (kks s (s.2 11 b)) A (jin (hd (Term.add (Term.index b) x)) A J)) S r2 w)) := fun a' A' ha' hM => by
      refine ST_ad hn h hA ⟨[], by simp⟩ rfl hdx st ha' (Nat.le_refl _) (fun r v st1 hx1 hv1 hk1 => ?_)
      obtain ⟨r9, r10, r11, r12, r13, r14, r2, rK, rx⟩ := ST_samed st1
      have rb := st1.2.2.2.2
      rw [List.nil_append] at rb
      rw [q11]
      refine cjm (makeKind_okd rK (Or.inl rfl) (kext_vk rx hv) hv1 (by omega)) (by omega) ?_
      rintro r2 w ⟨w1, w2, w3, w4, w5, w6⟩
      rw [hM]
      exact MP_0d st1 hnd h.2.2.2.1 hKJ dn1 (by rw [len1]; simp; omega) (JX.kx w1 w2 w3) (by omega) w5 (by rw [w6, kext_kt rx hKJ hv, ← hk0, hk1])
    refine ⟨fun ha1 => ?_, fun ha1 => ?_⟩
    · cases A with
      | none => exact plain _ none rfl rfl
      | some T =>
        exfalso
        have := h.2.2.2.1.1.lt hKJ.1.1.2 hKJ.2.1
        omega
    · cases A with
      | none => exact absurd h.2.2.2.1 ha1
      | some T =>
        obtain ⟨av, ak⟩ := id h.2.2.2.1
        have av0 := kext_vk qx av
        have al := av0.lt qK.1.1.2 qK.2.1
        have eT : kts s0 a = T := (kext_kt qx hKJ av).trans ak
        have hM0 := (k_const qK).1.2
        have h03 := st.2.2.2.2
        simp only [List.length_nil] at h03
        refine ⟨by omega, fun k3 => ?_, fun k3 => ?_⟩
        · rcases kt_cases qK av0 with ⟨k4, kr, kk⟩ | ⟨k4, kk⟩ | ⟨k4, kk⟩ | ⟨k4, kk, va, vb⟩ | ⟨k4, kk, va, vb⟩
          · rw [eT] at kk
            subst kk
            exact ⟨fun q => absurd kr q, fun _ => plain _ (some .null) (k_const qK).1 rfl⟩
          · have hr0 : a ≠ 0 := fun q => by rw [q, hM0] at kk; cases kk
            rw [eT] at kk
            subst kk
            exact ⟨fun _ => plain _ none rfl rfl, fun q => absurd q hr0⟩
          · have hr0 : a ≠ 0 := fun q => by rw [q, hM0] at kk; cases kk
            rw [eT] at kk
            subst kk
            exact ⟨fun _ => plain _ none rfl rfl, fun q => absurd q hr0⟩
          · exact absurd k4 k3
          · have hr0 : a ≠ 0 := fun q => by rw [q, hM0] at kk; cases kk
            rw [eT] at kk
            subst kk
            exact ⟨fun _ => plain _ none rfl rfl, fun q => absurd q hr0⟩
        · rcases kt_cases qK av0 with ⟨k4, kr, kk⟩ | ⟨k4, kk⟩ | ⟨k4, kk⟩ | ⟨k4, kk, va, vb⟩ | ⟨k4, kk, va, vb⟩
          · omega
          · omega
          · omega
          · have hr0 : a ≠ 0 := fun q => by rw [q, hM0] at kk; cases kk
            have hT : T = .add (kts s0 (s0.2 5 a)) (kts s0 (s0.2 6 a)) := eT.symm.trans kk
            have hks : kts s0 (s0.2 11 (hd (Term.add (Term.index b) x))) = kks s (s.2 11 b) := by rw [q11, kext_kt qx hKJ hv, hk0]
            have hv0 : vks s0 (s0.2 11 (hd (Term.add (Term.index b) x))) := by rw [q11]; exact kext_vk qx hv
            refine ⟨hr0, cjm (areMeeting_okd qK (by omega) hv0 va) (by omega) ?_⟩
            rintro r22 s1 ⟨rfl, rfl⟩
            rw [hks]
            have aft : ∀ (r : Int) (w : SM), SJd s (Term.add (Term.index b) x) a (some T) S ([] ++ fl x) (jds s x (some (kts s1 (s1.2 6 a))) (jin (hd (Term.add (Term.index b) x)) (some T) J)).1 w → kext s1 w → vks w r → kts w r = (jds s x (some (kts s1 (s1.2 6 a))) (jin (hd (Term.add (Term.index b) x)) (some T) J)).2 →
                (kmt (kks s (s.2 11 b)) (kts s1 (s1.2 5 a)) = false → cj iv L h0 Ad Tn ρ n (3 * n + 45) 65 [vr 307, vi 3, vi (s1.2 11 (hd (Term.add (Term.index b) x))), vi r] (ua w 21 (hd (Term.add (Term.index b) x)) 4) (qi fun r2 u => MPOSTd s (Term.add (Term.index b) x) (some T) (jdf (jds s x) b (kks s (s.2 11 b)) (some T) (jin (hd (Term.add (Term.index b) x)) (some T) J)) S r2 u)) ∧
                (kmt (kks s (s.2 11 b)) (kts s1 (s1.2 5 a)) = true → cj iv L h0 Ad Tn ρ n (3 * n + 45) 65 [vr 307, vi 3, vi (s1.2 11 (hd (Term.add (Term.index b) x))), vi r] w (qi fun r2 u => MPOSTd s (Term.add (Term.index b) x) (some T) (jdf (jds s x) b (kks s (s.2 11 b)) (some T) (jin (hd (Term.add (Term.index b) x)) (some T) J)) S r2 u)) := fun r w st1 hx1 hv1 hk1 => by
              obtain ⟨r9, r10, r11, r12, r13, r14, r2, rK, rx⟩ := ST_samed st1
              have rb := st1.2.2.2.2
              rw [List.nil_append] at rb
              have htv : vks w (s.2 11 (hd (Term.add (Term.index b) x))) := kext_vk rx hv
              rw [q11]
              refine ⟨fun hm => ?_, fun hm => ?_⟩
              · have rK' : KJs (ua w 21 (hd (Term.add (Term.index b) x)) 4) := rK
                refine cjm (makeKind_okd rK' (Or.inl rfl) htv hv1 (by show w.1 3 < 1440; omega)) (by omega) ?_
                rintro r2 u ⟨w1, w2, w3, w4, w5, w6⟩
                have w4 : u.1 3 ≤ w.1 3 + 1 := w4
                have w6 : kts u r2 = kmk 3 (kts w (s.2 11 (hd (Term.add (Term.index b) x)))) (kts w r) := w6
                have hM : jdf (jds s x) b (kks s (s.2 11 b)) (some T) (jin (hd (Term.add (Term.index b) x)) (some T) J) = (jsr (jds s x (some (kts s1 (s1.2 6 a))) (jin (hd (Term.add (Term.index b) x)) (some T) J)).1 (hd (Term.add (Term.index b) x)) 4, kmk 3 (kks s (s.2 11 b)) (jds s x (some (kts s1 (s1.2 6 a))) (jin (hd (Term.add (Term.index b) x)) (some T) J)).2) := by
                  rw [hT]
                  unfold jdf
                  simp only [hm]
                  rfl
                rw [hM]
                exact MP_rd st1 hnd h.2.2.2.1 hKJ hSl hbm hbx ⟨by omega, by omega⟩ dn1 (by rw [len1]; simp; omega) (JX.kx w1 w2 w3) (by omega) w5 (by rw [w6, kext_kt rx hKJ hv, ← hk0, hk1])
              · refine cjm (makeKind_okd rK (Or.inl rfl) htv hv1 (by omega)) (by omega) ?_
                rintro r2 u ⟨w1, w2, w3, w4, w5, w6⟩
                have hM : jdf (jds s x) b (kks s (s.2 11 b)) (some T) (jin (hd (Term.add (Term.index b) x)) (some T) J) = ((jds s x (some (kts s1 (s1.2 6 a))) (jin (hd (Term.add (Term.index b) x)) (some T) J)).1, kmk 3 (kks s (s.2 11 b)) (jds s x (some (kts s1 (s1.2 6 a))) (jin (hd (Term.add (Term.index b) x)) (some T) J)).2) := by
                  have hj0 : jsr (jds s x (some (kts s1 (s1.2 6 a))) (jin (hd (Term.add (Term.index b) x)) (some T) J)).1 b 0 = (jds s x (some (kts s1 (s1.2 6 a))) (jin (hd (Term.add (Term.index b) x)) (some T) J)).1 := jsr_0 st1.2.2.2.1.2
                  refine Prod.ext ?_ ?_
                  · rw [← hj0]
                    rw [hT]
                    unfold jdf
                    simp only [hm]
                    rfl
                  · rw [hT]
                    rfl
                rw [hM]
                exact MP_0d st1 hnd h.2.2.2.1 hKJ dn1 (by rw [len1]; simp; omega) (JX.kx w1 w2 w3) (by omega) w5 (by rw [w6, kext_kt rx hKJ hv, ← hk0, hk1])
            cases hm : kmt (kks s (s.2 11 b)) (kts s1 (s1.2 5 a)) with
            | true =>
              refine ⟨rfl, fun q => absurd q (by decide), fun _ => ST_ad hn h hA ⟨[], by simp⟩ rfl hdx st (A' := some (kts s1 (s1.2 6 a))) ⟨vb, rfl⟩ (Nat.le_refl _) (fun r v st1 hx1 hv1 hk1 => (aft r v st1 hx1 hv1 hk1).2 hm)⟩
            | false =>
              refine ⟨rfl, fun _ => ?_, fun q => absurd rfl q⟩
              have hbn : (b : Int) ∉ fl x := hbx
              refine ST_1d (ρ := ro ρ b 4) hn h.2.1 h.2.2.1 st hA ⟨[], by simp⟩ rfl (fun x q => by cases q) (fun _ q => absurd q (by show ¬ ((0 : Int) = 1); decide)) hdx (by simp; omega) (A' := some (kts s1 (s1.2 6 a))) ⟨vb, rfl⟩ (Nat.le_refl _) (fun v hv => h.2.2.2.2.2.1 v (List.mem_append_right _ hv)) (fun v q => ?_) (fun r v st1 hx1 hv1 hk1 => (aft r v st1 hx1 hv1 hk1).1 hm)
              by_cases ev : v = (b : Int)
              · subst ev
                exact ⟨hbn, fun w => w.elim (fun w => hSl _ w hbm) (fun w => by cases w)⟩
              · unfold ro at q
                rw [if_neg ev] at q
                exact ⟨fun w => (h.2.2.2.2.2.2 v q).1 (List.mem_append_right _ w), fun w => w.elim (h.2.2.2.2.2.2 v q).2 (fun w => by cases w)⟩
          · omega
theorem jsp_paird (hn : JSPd iv L h0 Ad Tn n) (h : CTXd Tn ρ n s t a A J S) (e : s.2 9 (hd t) = 12) : cj iv L h0 Ad Tn ρ (n + 1) (3 * (n + 1) + 45) 88 [vr 307, vi (hd t), vi a] s (qi (POSTd s t A J S)) := by
  obtain ⟨hA, hf, hnd, htd, hDP⟩ := id h.2.1
  obtain ⟨hKJ, hBO, hJR, hSl⟩ := id h.2.2.1
  have hna : na t = 2 := by rw [hf, e]; rfl
  obtain ⟨b, x, y, rfl⟩ := AT_2 hA hna
  have hbm := hd_mem _ hA
  have hb := (AT_mem _ hA _ hbm).1
  obtain ⟨hdx, hdy⟩ := dpt2 h.1
  have e' : s.2 9 (b : Int) = 12 := e
  have h5 := h.2.2.2.2.1
  rw [len2] at h5
  refine by_maked (M := jpr (jds s x) (jds s y) A (jin (hd (Term.add (Term.add (Term.index b) x) y)) A J)) h ?_ (fun s0 st => ?_)
  · show jen (s.2 9 b) b A _ = _
    rw [if_neg (by omega), if_neg (by omega), if_pos e']
    rfl
  · obtain ⟨q9, q10, q11, q12, q13, q14, q2, qK, qx⟩ := ST_samed st
    refine dmk_9 (HTm h) (by rw [q9]; exact e) (D93 (HTm h) (by rw [q9]; exact e) ?_)
    have plain : ∀ (a1 : Int) (A1 : Option Term) (a2 : Int) (A2 : Option Term), aK s0 a1 A1 → aK s0 a2 A2 → jpr (jds s x) (jds s y) A (jin (hd (Term.add (Term.add (Term.index b) x) y)) A J) = ((jds s y A2 (jds s x A1 (jin (hd (Term.add (Term.add (Term.index b) x) y)) A J)).1).1, kmk 4 (jds s x A1 (jin (hd (Term.add (Term.add (Term.index b) x) y)) A J)).2 (jds s y A2 (jds s x A1 (jin (hd (Term.add (Term.add (Term.index b) x) y)) A J)).1).2) →
        two iv L h0 Ad Tn ρ n (3 * n + 45) (hd (Term.add (Term.add (Term.index b) x) y)) a1 a2 s0 (fun r2 w => MPOSTd s (Term.add (Term.add (Term.index b) x) y) A (jpr (jds s x) (jds s y) A (jin (hd (Term.add (Term.add (Term.index b) x) y)) A J)) S r2 w) := fun a1 A1 a2 A2 ha1 ha2 hM => by
      unfold two
      rw [q14, (kid2 hA).1]
      refine ST_ad hn h hA.1 ⟨_, rfl⟩ rfl hdx st ha1 (Nat.le_refl _) (fun r v st1 hx1 hv1 hk1 => ?_)
      obtain ⟨r9, r10, r11, r12, r13, r14, r2, rK, rx⟩ := ST_samed st1
      refine ⟨by rw [r9, q9], ?_⟩
      rw [r14, (kid2 hA).2]
      refine ST_bd hn h hA ⟨[], by simp⟩ rfl hdy st1 (aK_x hx1 qK ha2) (Nat.le_refl _) (fun r' u st2 hx2 hv2 hk2 => ?_)
      obtain ⟨u9, u10, u11, u12, u13, u14, u2, uK, ux⟩ := ST_samed st2
      have rb := st2.2.2.2.2
      rw [List.nil_append, List.length_append] at rb
      refine cjm (makeKind_okd uK (Or.inr rfl) (kext_vk hx2 hv1) hv2 (by omega)) (by omega) ?_
      rintro r2 w ⟨w1, w2, w3, w4, w5, w6⟩
      rw [hM]
      exact MP_0d st2 hnd h.2.2.2.1 hKJ dn2 (by rw [len2]; simp; omega) (JX.kx w1 w2 w3) (by omega) w5 (by rw [w6, kext_kt hx2 rK hv1, hk1, hk2])
    cases A with
    | none =>
      have ha1 : a = -1 := h.2.2.2.1
      exact ⟨fun _ => plain _ none _ none rfl rfl rfl, fun q => by omega, fun q => absurd ha1 q⟩
    | some T =>
      obtain ⟨av, ak⟩ := id h.2.2.2.1
      have av0 := kext_vk qx av
      have al := av0.lt qK.1.1.2 qK.2.1
      have eT : kts s0 a = T := (kext_kt qx hKJ av).trans ak
      have hM0 := (k_const qK).1.2
      have h03 := st.2.2.2.2
      simp only [List.length_nil] at h03
      rcases kt_cases qK av0 with ⟨k4, kr, kk⟩ | ⟨k4, kk⟩ | ⟨k4, kk⟩ | ⟨k4, kk, va, vb⟩ | ⟨k4, kk, va, vb⟩
      · rw [eT] at kk
        subst kk
        exact ⟨fun q => by omega, fun _ => plain _ (some .null) _ (some .null) (k_const qK).1 (k_const qK).1 rfl, fun _ q => absurd kr q⟩
      · have hr0 : a ≠ 0 := fun q => by rw [q, hM0] at kk; cases kk
        rw [eT] at kk
        subst kk
        exact ⟨fun q => by omega, fun q => absurd q hr0, fun _ _ => ⟨by omega, fun _ => plain _ none _ none rfl rfl rfl, fun q => by omega⟩⟩
      · have hr0 : a ≠ 0 := fun q => by rw [q, hM0] at kk; cases kk
        rw [eT] at kk
        subst kk
        exact ⟨fun q => by omega, fun q => absurd q hr0, fun _ _ => ⟨by omega, fun _ => plain _ none _ none rfl rfl rfl, fun q => by omega⟩⟩
      · have hr0 : a ≠ 0 := fun q => by rw [q, hM0] at kk; cases kk
        rw [eT] at kk
        subst kk
        exact ⟨fun q => by omega, fun q => absurd q hr0, fun _ _ => ⟨by omega, fun _ => plain _ none _ none rfl rfl rfl, fun q => by omega⟩⟩
      · have hr0 : a ≠ 0 := fun q => by rw [q, hM0] at kk; cases kk
        have hT : T = .mul (kts s0 (s0.2 5 a)) (kts s0 (s0.2 6 a)) := eT.symm.trans kk
        have key := plain (s0.2 5 a) (some (kts s0 (s0.2 5 a))) (s0.2 6 a) (some (kts s0 (s0.2 6 a))) ⟨va, rfl⟩ ⟨vb, rfl⟩ (by rw [hT]; rfl)
        exact ⟨fun q => by omega, fun q => absurd q hr0, fun _ _ => ⟨by omega, fun q => absurd k4 q, fun _ => key⟩⟩
theorem jsp_pickd (hn : JSPd iv L h0 Ad Tn n) (h : CTXd Tn ρ n s t a A J S) (e : s.2 9 (hd t) = 11) : cj iv L h0 Ad Tn ρ (n + 1) (3 * (n + 1) + 45) 88 [vr 307, vi (hd t), vi a] s (qi (POSTd s t A J S)) := by
  obtain ⟨hA, hf, hnd, htd, hDP⟩ := id h.2.1
  obtain ⟨hKJ, hBO, hJR, hSl⟩ := id h.2.2.1
  have hna : na t = 3 := by rw [hf, e]; rfl
  obtain ⟨b, x, y, z, rfl⟩ := AT_3 hA hna
  have hbm := hd_mem _ hA
  have hb := (AT_mem _ hA _ hbm).1
  obtain ⟨hdx, hdy, hdz⟩ := dpt3 h.1
  have e' : s.2 9 (b : Int) = 11 := e
  have h5 := h.2.2.2.2.1
  rw [len3] at h5
  have hbx : hd (Term.add (Term.add (Term.add (Term.index b) x) y) z) ∉ (([] ++ fl x) ++ fl y) ++ fl z := fun q => by
    have hnd1 : ((([(b : Int)] ++ fl x) ++ fl y) ++ fl z).Nodup := hnd
    have q : (b : Int) ∈ ((fl x ++ fl y) ++ fl z) := q
    rw [List.append_assoc, List.append_assoc] at hnd1
    rw [List.append_assoc] at q
    exact (List.nodup_append.mp hnd1).2.2 _ (List.mem_singleton.mpr rfl) _ q rfl
  refine by_maked (M := jpk (jds s x) (jds s y) (jds s z) b A (jin (hd (Term.add (Term.add (Term.add (Term.index b) x) y) z)) A J)) h rfl (fun s0 st => ?_)
  obtain ⟨q9, q10, q11, q12, q13, q14, q2, qK, qx⟩ := ST_samed st
  refine dmk_8 (HTm h) (by rw [q9]; exact e) (D92 (HTm h) (HTr h) (by rw [q9]; exact e) ?_)
  rw [q14, (kid3 hA).1]
  refine (ST_ad hn h hA.1.1 ⟨fl y ++ fl z, List.append_assoc (fl (.add (.index b) x)) (fl y) (fl z)⟩ rfl hdx st (A' := some .thrown) (k_const qK).2.2 (Nat.le_refl _) (fun r v st1 hx1 hv1 hk1 => ?_))
  obtain ⟨r9, r10, r11, r12, r13, r14, r2, rK, rx⟩ := ST_samed st1
  refine ⟨by rw [r9, q9], ?_⟩
  rw [r14, (kid3 hA).2.1]
  refine ST_bd hn h hA.1 ⟨_, rfl⟩ rfl hdy st1 (A' := A) (aK_x rx hKJ h.2.2.2.1) (Nat.le_refl _) (fun r' u st2 hx2 hv2 hk2 => ?_)
  obtain ⟨u9, u10, u11, u12, u13, u14, u2, uK, ux⟩ := ST_samed st2
  refine ⟨by rw [u9, q9], ?_⟩
  rw [u14, (kid3 hA).2.2]
  refine ST_cd hn h hA ⟨[], by simp⟩ rfl hdz st2 (A' := A) (aK_x ux hKJ h.2.2.2.1) (Nat.le_refl _) (fun r'' w st3 hx3 hv3 hk3 => ?_)
  obtain ⟨w9, w10, w11, w12, w13, w14, w2, wK, wx⟩ := ST_samed st3
  have rb := st3.2.2.2.2
  rw [List.nil_append, List.length_append, List.length_append] at rb
  have hv2' := kext_vk hx3 hv2
  have hk2' := (kext_kt hx3 uK hv2).trans hk2
  cases A with
  | none =>
    refine ⟨fun _ => ?_, fun q => absurd h.2.2.2.1 q⟩
    have s2 := (wK.at hv2').1.2
    refine cjm (areMeeting_okd wK (by omega) hv2' hv3) (by omega) ?_
    rintro r22 w' ⟨rfl, rfl⟩
    rw [hk2', hk3]
    cases hm : kmt (jds s y none (jds s x (some .thrown) (jin (hd (Term.add (Term.add (Term.add (Term.index b) x) y) z)) none J)).1).2 (jds s z none (jds s y none (jds s x (some .thrown) (jin (hd (Term.add (Term.add (Term.add (Term.index b) x) y) z)) none J)).1).1).2 with
    | true =>
      refine ⟨fun q => absurd q (by decide), fun _ => ?_⟩
      refine cjm (together_okd wK hv2' hv3 (by rw [hk2', hk3]; exact hm) (by omega)) (by omega) ?_
      rintro r2 m ⟨m1, m2, m3, m4, m5, m6⟩
      have hM : jpk (jds s x) (jds s y) (jds s z) b none (jin (hd (Term.add (Term.add (Term.add (Term.index b) x) y) z)) none J) = (_, _) := if_pos hm
      rw [hM]
      exact MP_0d st3 hnd h.2.2.2.1 hKJ dn3 (by rw [len3]; simp; omega) (JX.kx m1 m2 m3) (by omega) m5 (by rw [m6, hk2', hk3])
    | false =>
      refine ⟨fun _ => ?_, fun q => absurd rfl q⟩
      have hM : jpk (jds s x) (jds s y) (jds s z) b none (jin (hd (Term.add (Term.add (Term.add (Term.index b) x) y) z)) none J) = (jsr _ (hd (Term.add (Term.add (Term.add (Term.index b) x) y) z)) 5, .null) := if_neg (by rw [hm]; decide)
      rw [hM]
      have wK' : KJs (ua w' 21 (hd (Term.add (Term.add (Term.add (Term.index b) x) y) z)) 5) := wK
      exact MP_rd st3 hnd h.2.2.2.1 hKJ hSl hbm hbx ⟨by omega, by omega⟩ dn3 (by rw [len3]; simp; omega) (JX.rf wK') (by show w'.1 3 ≤ w'.1 3 + 20; omega) (k_const wK').1.1 (k_const wK').1.2
  | some T =>
    obtain ⟨av, ak⟩ := id h.2.2.2.1
    have al := av.lt hKJ.1.1.2 hKJ.2.1
    refine ⟨fun q => by omega, fun _ => ?_⟩
    exact MP_0d st3 hnd h.2.2.2.1 hKJ dn3 (by rw [len3]; simp; omega) (JX.rf wK) (by omega) (kext_vk wx av) (by rw [kext_kt wx hKJ av]; exact ak)
/-- every tree -/
theorem jsp_alld : ∀ n, JSPd iv L h0 Ad Tn n := by
  intro n
  induction n with
  | zero => intro ρ t s a A J S h; have := dpt_pos t; omega
  | succ n ih =>
    intro ρ t s a A J S h1 h2 h3 h4 h5 h6
    have hc : CTXd Tn ρ n s t a A J S := ⟨h1, h2, h3, h4, h5, h6⟩
    have hm := (AT_mem t h2.1 _ (hd_mem t h2.1)).2.1
    rcases (show s.2 9 (hd t) = 0 ∨ s.2 9 (hd t) = 1 ∨ s.2 9 (hd t) = 2 ∨ s.2 9 (hd t) = 3 ∨ s.2 9 (hd t) = 4 ∨ s.2 9 (hd t) = 5 ∨ s.2 9 (hd t) = 6 ∨ s.2 9 (hd t) = 7 ∨ s.2 9 (hd t) = 8 ∨ s.2 9 (hd t) = 9 ∨ s.2 9 (hd t) = 10 ∨ s.2 9 (hd t) = 11 ∨ s.2 9 (hd t) = 12 ∨ s.2 9 (hd t) = 13 ∨ s.2 9 (hd t) = 14 ∨ s.2 9 (hd t) = 15 by omega) with e | e | e | e | e | e | e | e | e | e | e | e | e | e | e | e
    · exact jsp_leafd hc (by omega)
    · exact jsp_leafd hc (by omega)
    · exact jsp_leafd hc (by omega)
    · exact jsp_named hc e
    · exact jsp_reckd ih hc (by omega)
    · exact jsp_reckd ih hc (by omega)
    · exact jsp_reckd ih hc (by omega)
    · exact jsp_reckd ih hc (by omega)
    · exact jsp_defd ih hc e
    · exact jsp_used ih hc e
    · exact jsp_letd ih hc e
    · exact jsp_pickd ih hc e
    · exact jsp_paird ih hc e
    · exact jsp_halfd ih hc (by omega)
    · exact jsp_halfd ih hc (by omega)
    · exact jsp_toldd ih hc e
end
end
section
/-! The desk lists its sheet and judges it. -/
/-- rows of the desk for judging, the rest from elsewhere -/
def mx (A : Int → Nat) (c : SC) (s : SM) : SM := (fun y => if y = 2 then fI c 65 4 else if y = 3 then fI c 65 5 else s.1 y, fun f => if f = 4 then aI c 66 else if f = 5 then aI c 67 else if f = 6 then aI c 68 else if f = 7 then aI c 69 else if f = 19 then (fun b => fI c (A b) 9) else if f = 20 then (fun b => fI c (A b) 8) else if f = 21 then (fun b => fI c (A b) 10) else s.2 f)
def KJc (c : SC) : Prop := KJ (fI c 65 4) (fI c 65 5) (aI c 66) (aI c 67) (aI c 68) (aI c 69)
def vkc (c : SC) (k : Int) : Prop := vk (fI c 65 4) (fI c 65 5) k
def ktc (c : SC) (k : Int) : Term := kt (aI c 66) (aI c 67) (aI c 68) k
/-- kinds that were told are the same -/
def KIc (c : SC) (s : SM) : Prop := fI c 65 4 = s.1 2 ∧ ∀ k, 0 ≤ k → k < s.1 2 → aI c 66 k = s.2 4 k ∧ aI c 67 k = s.2 5 k ∧ aI c 68 k = s.2 6 k ∧ aI c 69 k = s.2 7 k
def aKc (c : SC) (a : Int) (A : Option Term) : Prop := match A with
  | none => a = -1
  | some t => vkc c a ∧ ktc c a = t
/-- what was judged stands at the nodes -/
def JUc (A : Int → Nat) (c : SC) (s : SM) (t : Term) : Prop := KJc c ∧ fI c 65 5 ≤ 1240 ∧ ∀ x, x ∈ fl t → (vkc c (fI c (A x) 9) ∧ ktc c (fI c (A x) 9) = (jdg s t).1 x) ∧ aKc c (fI c (A x) 8) ((jdg s t).2.1 x) ∧ fI c (A x) 10 = (jdg s t).2.2 x ∧ 0 ≤ (jdg s t).2.2 x ∧ (jdg s t).2.2 x ≤ 6
theorem KI_lt {n : Int} {ks ka kb sz ks' ka' kb' sz' : Int → Int} (h : KI n ks ka kb sz) (he : ∀ k, 0 ≤ k → k < n → ks' k = ks k ∧ ka' k = ka k ∧ kb' k = kb k ∧ sz' k = sz k) : KI n ks' ka' kb' sz' := by
  obtain ⟨h1, h2, h3⟩ := h
  refine ⟨h1, fun k k0 k3 => ?_, fun k k3 kn => ?_⟩
  · obtain ⟨e1, e2, e3, e4⟩ := he k k0 (by omega)
    rw [e1, e2, e3, e4]
    exact h2 k k0 k3
  · obtain ⟨q1, q2, q3, q4, q5⟩ := h3 k k3 kn
    obtain ⟨e1, e2, e3, e4⟩ := he k (by omega) kn
    rw [e1, e2, e3, e4, (he (ka k) (by omega) (by omega)).2.2.2, (he (kb k) (by omega) (by omega)).2.2.2]
    exact ⟨q1, q2, q3, q4, q5⟩
/-- kinds by rows that agree -/
theorem kt_lt {n : Int} {ks ka kb sz ks' ka' kb' : Int → Int} (h : KI n ks ka kb sz) (he : ∀ k, 0 ≤ k → k < n → ks' k = ks k ∧ ka' k = ka k ∧ kb' k = kb k) : ∀ k, 0 ≤ k → k < n → kt ks' ka' kb' k = kt ks ka kb k := by
  have key : ∀ (q : Nat) (k : Int), 0 ≤ k → k < n → kd ks' ka' kb' q k = kd ks ka kb q k := by
    intro q
    induction q with
    | zero => intro k _ _; rfl
    | succ q ih =>
      intro k k0 kn
      obtain ⟨e1, e2, e3⟩ := he k k0 kn
      rw [kd_s, kd_s, e1, e2, e3]
      by_cases h3 : k < 3
      · obtain ⟨f1, -⟩ := h.2.1 k k0 h3
        by_cases e0 : ks k = 0
        · rw [if_pos e0, if_pos e0]
        · by_cases e1 : ks k = 1
          · rw [if_neg e0, if_neg e0, if_pos e1, if_pos e1]
          · rw [if_neg e0, if_neg e0, if_neg e1, if_neg e1, if_pos (by omega), if_pos (by omega)]
      · obtain ⟨g1, g2, g3, -⟩ := h.2.2 k (by omega) kn
        rw [ih _ g2.1 (by omega), ih _ g3.1 (by omega)]
  intro k k0 kn
  exact key 40 k k0 kn
section
variable {iv : List (Int × Int)} {L : Nat} {h0 : MH} {A : Int → Nat} {c e : SC} {s : SM} {t : Term} {d : Nat}
theorem KIc.KI (h : KIc c s) (hK : KIs s) : KI (fI c 65 4) (aI c 66) (aI c 67) (aI c 68) (aI c 69) := by
  rw [h.1]
  exact KI_lt hK h.2
theorem KIc.kks (h : KIc c s) (hK : KIs s) {k : Int} (h0 : 0 ≤ k) (hk : k < s.1 2) : ktc c k = kks s k := by
  rw [kks_told ⟨h0, hk⟩]
  exact kt_lt hK (fun k k0 kn => by
    obtain ⟨e1, e2, e3, -⟩ := h.2 k k0 kn
    exact ⟨e1, e2, e3⟩) k h0 hk
/-- the tree as a place to judge -/
theorem js_of (hX : FIX c) (hN : ND A c s) (hH : HG A c s t) (h : SHT s t) : JS A (fun x => x ∈ fl t) c s := by
  refine ⟨⟨A9 hN, fun b b' hb hb' e => hN.inj (h.m _ hb') e⟩, fun b hb => ?_⟩
  obtain ⟨⟨n1, n2, n3, n4, n5, n6, n7, n8⟩, n9, n10⟩ := hN.2 b (h.m b hb).1 (h.m b hb).2
  obtain ⟨q1, q2, q3⟩ := hH.1 b hb
  refine ⟨⟨(hN.ne (h.m b hb)).2, n1, n2, n3⟩, ⟨n5, n8, n6, n7⟩, ⟨q1, fun q => q2 (fun e => q (by rw [e]; exact h.2.2.2.2.2.2.1)), ?_⟩, fun i i0 i1 => ⟨q3 i i0 i1, ?_⟩⟩
  · by_cases e : b = hd t
    · left; rw [e]; exact h.2.2.2.2.2.2.1
    · right; exact h.up9 hb e
  · exact ((AT_mem t h.1 b hb).2.2.1 i i0 i1 (fun e => by have := h.2.1; unfold full at this; rw [e] at i1; omega)).1
theorem judgeAll_ok {F : SC → Prop} (hX : FIX c) (hN : ND A c s) (hH : HG A c s t) (h : SHT s t) (hB : NB s) (hK : KIs s) (hI : KIc c s) (hD : 230 ≤ d) (hF : ∀ e, CX jys jrs c e → RMk 0 0 c e → KIc e s → JUc A e s t → F e) : ck iv L h0 d 163 [vr 175, vr (A (hd t))] c (qv F) := by
  obtain ⟨d, rfl⟩ : ∃ k, d = k + 1 := ⟨d - 1, by omega⟩
  have hk : kl c 175 = 3 ∧ kl c 65 = 4 ∧ fR c 175 0 = 65 := by simp only [hX.1]; exact ⟨trivial, trivial, trivial⟩
  refine C163 ⟨hk.1, by rw [hk.2.2]; exact hk.2.1, ?_⟩
  rw [hk.2.2]
  refine C180 ⟨hk.2.1, hk.1, ?_⟩
  generalize hf : uI c 65 5 40 = f
  have hXf : FIX f := by rw [← hf]; exact hX
  have hx0 : CX jys jrs c f := by rw [← hf]; exact CX.rf.uI (fun _ => by rw [hk.2.1]; decide)
  have hNf : ND A f s := hN.x hx0 (by decide) (by decide) (by decide) (by decide) (by decide)
  have hHf : HG A f s t := hH.x hN h.m hX hx0 (by decide) (by decide) (by decide) (by decide)
  have f4 : fI f 65 4 = s.1 2 := by rw [← hf, fI_uI, if_neg (by omega)]; exact hI.1
  have f5 : fI f 65 5 = 40 := by rw [← hf, fI_uI, if_pos ⟨rfl, rfl⟩]
  have hIf : KIc f s := ⟨f4, by rw [← hf]; exact hI.2⟩
  have hKI := hIf.KI hK
  have hSJ : KJs (mx A f s) := by
    show KJ (fI f 65 4) (fI f 65 5) (aI f 66) (aI f 67) (aI f 68) (aI f 69)
    exact ⟨hKI, by omega, fun k k1 k2 => by omega⟩
  have hv : VJ A (fun x => x ∈ fl t) (fun _ => none) f (mx A f s) := ⟨hXf, js_of hXf hNf hHf h, fun b _ => ⟨rfl, rfl, rfl⟩, ⟨rfl, rfl⟩, rfl, rfl, rfl, rfl⟩
  have hdp := dpt_len t h.1
  have hl := h.2.2.2.1
  have hB8 := h.2.2.2.2.1
  have hT : PRT (mx A f s) t := ⟨AT_B (show s.1 8 ≤ 3004 by omega) t h.1, h.2.1, h.2.2.1, fun x hx q => by
    have := (hB x (h.lt hx).1 (h.lt hx).2.1).2.2.2 q
    show 0 ≤ s.2 11 x ∧ s.2 11 x < fI f 65 4
    rw [f4]; exact this, fun x hx => DP_up 61 70 _ (by omega) (DP_tree h x hx)⟩
  have hP : PRJ (mx A f s) (hd t) (fl t) J0 (fun _ => False) := ⟨hSJ, fun x => Or.inl (by
    show bnd (s.2 9) (s.2 10) (s.2 12) (s.2 13) 70 (hd t) x = -9
    unfold bnd
    rw [if_pos h.2.2.2.2.2.2.1]), fun x q => q.elim, fun x q => q.elim⟩
  have h3 : (mx A f s).1 3 = 40 := f5
  have spec := jsp_alld (iv := iv) (L := L) (h0 := h0) (Ad := A) (Tn := fun x => x ∈ fl t) (dpt t) (fun _ => none) t (mx A f s) (-1) none J0 (fun _ => False) (Nat.le_refl _) hT hP rfl (by rw [h3]; omega) ⟨fun _ q => q, fun x q => absurd rfl q⟩
  refine inQ (spec f 0 hv (Int.le_refl _) (by omega)) (by omega) ?_
  rintro r e w hvw ⟨hxw, hrw⟩ ⟨p1, p2, p3, p4⟩
  have hjd : (jds (mx A f s) t none J0).1 = jdg s t := by
    show jdg (mx A f s) t = jdg s t
    refine jdg_un h.w ⟨AT_B (show s.1 8 ≤ 3004 by omega) t h.1, h.2.1, h.2.2.1, h.2.2.2.2.2.1, h.2.2.2.2.2.2.1, h.2.2.2.2.2.2.2⟩ (fun x _ => ⟨rfl, rfl, rfl⟩) (fun x hx q => ?_)
    have hq := (hB x (h.lt hx).1 (h.lt hx).2.1).2.2.2 q
    rw [kks_told (s := mx A f s) ⟨hq.1, by show s.2 11 x < fI f 65 4; rw [f4]; exact hq.2⟩, ← hIf.kks hK hq.1 hq.2]
    rfl
  rw [hjd] at p4
  obtain ⟨hXe, -, hJe, ⟨g1, g2⟩, g4, g5, g6, g7⟩ := hvw
  have w2 : w.1 2 = s.1 2 := (p1.1.1 2 (by decide)).trans f4
  refine hF e (hx0.tr hxw) ⟨by have := hrw.1; rw [← hf] at this; exact this, by have := hrw.2; rw [← hf] at this; exact this⟩ ⟨g1.trans w2, fun k k0 kn => ?_⟩ ⟨?_, ?_, fun x hx => ?_⟩
  · rw [g4, g5, g6, g7]
    obtain ⟨q1, q2, q3, q4⟩ := p1.2.2.1.2.2 k (by rw [h3]; have := hK.1; omega)
    obtain ⟨o1, o2, o3, o4⟩ := hIf.2 k k0 kn
    exact ⟨q1.trans o1, q2.trans o2, q3.trans o3, q4.trans o4⟩
  · unfold KJc
    rw [g1, g2, g4, g5, g6, g7]
    exact p1.2.1
  · rw [g2]
    rw [h3] at p2
    omega
  · obtain ⟨⟨r1, r2⟩, r3, r4⟩ := p4 x (Or.inr hx)
    obtain ⟨j1, j2, j3⟩ := hJe x hx
    have j3 : fI e (A x) 10 = w.2 21 x := j3
    have hvk : ∀ k, vkc e k ↔ vks w k := fun k => by unfold vkc vks; rw [g1, g2]
    have hkt : ∀ k, ktc e k = kts w k := fun k => by unfold ktc kts; rw [g4, g5, g6]
    rw [j1, j2, j3]
    refine ⟨⟨(hvk _).mpr r1, (hkt _).trans r2⟩, ?_, r4⟩
    cases hA : (jdg s t).2.1 x with
    | none => rw [hA] at r3; exact r3
    | some T => rw [hA] at r3; exact ⟨(hvk _).mpr r3.1, (hkt _).trans r3.2⟩
def sys : List (Nat × Nat) := [(5, 7), (8, 3), (5, 8), (5, 9), (5, 10), (25, 8), (25, 9), (25, 10), (4, 5)]
def srs : List Nat := [71, 66, 67, 68, 69]
theorem settle_ok {F : SC → Prop} (hX : FIX c) (hN : ND A c s) (hH : HG A c s t) (h : SHT s t) (hB : NB s) (hK : KIs s) (hI : KIc c s) (hD : 231 ≤ d) (hF : ∀ e, CX sys srs c e → RMk 0 0 c e → LST A e t → KIc e s → JUc A e s t → F e) : ck iv L h0 d 51 [vr 64] c (qv F) := by
  obtain ⟨d, rfl⟩ : ∃ k, d = k + 1 + 2 := ⟨d - 3, by omega⟩
  have hk : kl c 64 = 1 ∧ kl c 70 = 8 ∧ fR c 64 1 = 70 := by simp only [hX.1]; exact ⟨trivial, trivial, trivial⟩
  refine C51 ⟨hk.1, by rw [hk.2.2]; exact hk.2.1, ?_⟩
  rw [hk.2.2]
  refine list_ok hX hN hH h (fun f hx hr hL => ?_)
  have hXf := hX.x hx (by decide) (by decide)
  have hk : kl f 64 = 1 ∧ kl f 70 = 8 ∧ fR f 64 1 = 70 ∧ fR f 64 2 = 175 ∧ kl f 175 = 3 := by simp only [hXf.1]; exact ⟨trivial, trivial, trivial, trivial, trivial⟩
  have hNf := hN.x hx (by decide) (by decide) (by decide) (by decide) (by decide)
  have hHf := hH.x hN h.m hX hx (by decide) (by decide) (by decide) (by decide)
  have h353 := hX.2.2.1
  have hk65 : kl c 65 = 4 := by simp only [hX.1]
  have hIf : KIc f s := by
    have ar : ∀ a, 66 ≤ a → a ≤ 69 → aI f a = aI c a := fun a a1 a2 => hx.ai (by omega) (by unfold rk; rw [if_pos (by omega)]; simp; omega)
    refine ⟨(hx.i (by omega) (by rw [hk65]; decide)).trans hI.1, fun k k0 kn => ?_⟩
    rw [ar 66 (by decide) (by decide), ar 67 (by decide) (by decide), ar 68 (by decide) (by decide), ar 69 (by decide) (by decide)]
    exact hI.2 k k0 kn
  refine ⟨hk.1, by rw [hk.2.2.1]; exact hk.2.1, by rw [hk.2.2.2.1]; exact hk.2.2.2.2, ?_⟩
  rw [hk.2.2.2.1, hk.2.2.1, hHf.2]
  refine judgeAll_ok hXf hNf hHf h hB hK hIf (by omega) (fun e hx2 hr2 hI2 hJ2 => ?_)
  refine hF e ((hx.up (by decide) (by decide)).tr (hx2.up (by decide) (by decide))) (hr.tr hr2) (hL.x hNf h.m hXf hx2 (by decide) (by decide) (by decide)) hI2 hJ2
end
end
section
/-! The sheet while an act changes it: nodes born, links put. -/
/-- links that are right: upward, downward -/
def LK (A : Int → Nat) (c : SC) (s : SM) (P : Int → Prop) : Prop := ∀ b, P b → fR c (A b) 5 = A (s.2 12 b) ∧ (s.2 12 b ≠ -9 → fI c (A b) 6 = s.2 13 b)
def PT (A : Int → Nat) (c : SC) (s : SM) (Q : Int → Int → Prop) : Prop := ∀ b i, Q b i → aR c (A b + 1) i = A (s.2 14 (3 * b + i))
def INB (s : SM) (P : Int → Prop) (Q : Int → Int → Prop) : Prop := (∀ b, P b → (0 ≤ b ∧ b < s.1 8) ∧ (s.2 12 b = -9 ∨ (0 ≤ s.2 12 b ∧ s.2 12 b < s.1 8))) ∧ ∀ b i, Q b i → (0 ≤ b ∧ b < s.1 8) ∧ (0 ≤ i ∧ i < pO (s.2 9 b)) ∧ 0 ≤ s.2 14 (3 * b + i) ∧ s.2 14 (3 * b + i) < s.1 8
def OP (A : Int → Nat) (c : SC) (s : SM) (P : Int → Prop) (Q : Int → Int → Prop) : Prop := (FIX c ∧ ND A c s ∧ INB s P Q) ∧ (LK A c s P ∧ PT A c s Q) ∧ (fR c 70 1 = A (s.1 15) ∧ fI c 70 4 = s.1 8 ∧ 0 ≤ s.1 15 ∧ s.1 15 < s.1 8) ∧ KIc c s ∧ 0 ≤ s.1 8 ∧ s.1 8 ≤ 3000
/-- more nodes -/
def EXT (A A' : Int → Nat) (B : Int) : Prop := ∀ b, b < B → A' b = A b
def A1 (A : Int → Nat) (B : Int) (a : Nat) : Int → Nat := fun b => if b = B then a else A b
theorem EXT.rf {A : Int → Nat} {B : Int} : EXT A A B := fun _ _ => rfl
theorem EXT.tr {A A' A'' : Int → Nat} {B B' : Int} (h : EXT A A' B) (h' : EXT A' A'' B') (hB : B ≤ B') : EXT A A'' B := fun b h1 => (h' b (by omega)).trans (h b h1)
theorem EXT_1 {A : Int → Nat} {B : Int} {a : Nat} : EXT A (A1 A B a) B := fun b h1 => if_neg (by omega)
/-- what stands in a cell that was born -/
def BORN (c e : SC) (so v k : Int) : Prop := CX [(8, 4)] [] c e ∧ (nxt e = nxt c + 2 ∧ slo e ≤ slo c + 16) ∧ fI e 70 4 = fI c 70 4 + 1 ∧ NDb e (nxt c) (fI c 70 4) so v k ∧ fR e (nxt c) 5 = 2 ∧ fR e (nxt c) 12 = 2 ∧ fI e (nxt c) 11 = -9
/-- nodes made since then were neither filled nor worked -/
def NWc (lo : Nat) (c : SC) : Prop := ∀ a, lo ≤ a → a < nxt c → kl c a = 5 → fR c a 12 = 2 ∧ fI c a 11 = -9
theorem NWc.rf {c : SC} : NWc (nxt c) c := fun a h1 h2 => by omega
theorem NWc.x {lo : Nat} {c e : SC} {ys : List (Nat × Nat)} {rs : List Nat} (h : NWc lo c) (hl : 353 ≤ lo) (hx : CX ys rs c e) (hr : RMk 0 0 c e) (hy : (5, 11) ∉ ys ∧ (5, 12) ∉ ys) : NWc lo e := fun a h1 h2 h3 => by
  have hn : a < nxt c := by have := hr.1; omega
  rw [hx.k hn] at h3
  have hk : ky a (kl c a) = 5 := by unfold ky; rw [if_neg (by omega), h3]
  rw [hx.r hn (by rw [hk]; exact hy.2), hx.i hn (by rw [hk]; exact hy.1)]
  exact h a h1 hn h3
theorem NWc.b {lo : Nat} {c e : SC} {so v k : Int} (h : NWc lo c) (hl : 353 ≤ lo) (hb : BORN c e so v k) : NWc lo e := fun a h1 h2 h3 => by
  have hn2 := hb.2.1.1
  by_cases e1 : a = nxt c
  · subst e1
    exact ⟨hb.2.2.2.2.2.1, hb.2.2.2.2.2.2⟩
  · by_cases e2 : a = nxt c + 1
    · subst e2
      have := hb.2.2.2.1.2.1
      rw [this] at h3
      omega
    · have hn : a < nxt c := by omega
      rw [hb.1.k hn] at h3
      have hk : ky a (kl c a) = 5 := by unfold ky; rw [if_neg (by omega), h3]
      rw [hb.1.r hn (by rw [hk]; decide), hb.1.i hn (by rw [hk]; decide)]
      exact h a h1 hn h3
section
variable {iv : List (Int × Int)} {L : Nat} {h0 : MH} {A : Int → Nat} {c e : SC} {s : SM} {t : Term} {d : Nat} {P : Int → Prop} {Q : Int → Int → Prop}
theorem born_c {so v k : Int} {F : Nat → SC → Prop} (hX : FIX c) (hB : 0 ≤ fI c 70 4 ∧ fI c 70 4 ≤ 3000) (hso : 0 ≤ so ∧ so < 16) (hF : ∀ e, BORN c e so v k → F (nxt c) e) : ck iv L h0 (d + 1) 204 [vr 70, vi so, vi v, vi k] c (qa F) := by
  have h3 := hX.2.2.1
  have hk : kl c 70 = 8 := by simp only [hX.1]
  have hp := pO_in so
  refine C204 ⟨h3, ?_, ?_, by omega, ?_⟩
  · rw [kl_nO, if_neg (by omega)]; exact hk
  · rw [fI_nO, if_neg (by omega)]; omega
  · refine C186 ⟨by omega, ?_, hso, by omega, ?_, ?_, hF _ ⟨?_, ⟨rfl, ?_⟩, ?_, ⟨?_, ?_, ?_, ?_, ?_, ?_, ?_, ?_⟩, ?_, ?_, ?_⟩⟩
    · rw [kl_uI, kl_nO, if_pos rfl]
    · show 353 ≤ nxt c + 1; omega
    · simp only [kl_nA, kl_uI, kl_nO, nx_uI, nx_nO]
      rw [if_neg (by omega), if_pos trivial]
    · have nw : ∀ {e : SC} {y : Nat} {z : Int}, CX [(8, 4)] [] c e → CX [(8, 4)] [] c (uI e (nxt c) y z) := fun h => h.uI (fun q => by omega)
      have nr : ∀ {e : SC} {y z : Nat}, CX [(8, 4)] [] c e → CX [(8, 4)] [] c (uR e (nxt c) y z) := fun h => h.uR (fun q => by omega)
      refine nr (CX.nA (nw (nw (nw (nw (nr (nw (nw (nw (nw (nw (nw (nr ?_)))))))))))))
      refine CX.uI CX.rf.nO (fun _ => ?_)
      rw [kl_nO, if_neg (by omega), hk]
      decide
    · show slo c + nfl 4 + (pO so).toNat ≤ slo c + 16
      have : nfl 4 = 13 := by decide
      omega
    · have e70 : ¬ (70 = nxt c) := by omega
      simp only [fI_uR, fI_nA, fI_uI, fI_nO]
      simp [e70]
    · simp only [kl_uR, kl_nA, kl_uI, kl_nO, nx_uI, nx_nO, nx_uR]
      rw [if_neg (by omega), if_pos trivial]
    · simp only [kl_uR, kl_nA, kl_uI, kl_nO, nx_uI, nx_nO, nx_uR]
      simp
    · simp only [le_uR, le_nA, le_uI, le_nO, nx_uI, nx_nO, nx_uR]
      simp
    · simp only [fI_uR, fI_nA, fI_uI, fI_nO]
      simp
      intro q; omega
    · simp only [fI_uR, fI_nA, fI_uI, fI_nO]
      simp
    · simp only [fI_uR, fI_nA, fI_uI, fI_nO]
      simp
    · simp only [fR_uR, nx_uI, nx_nO, nx_uR]
      simp
    · simp only [fI_uR, fI_nA, fI_uI, fI_nO]
      simp
    · simp only [fR_uR, fR_nA, fR_uI, fR_nO]
      simp
    · simp only [fR_uR, fR_nA, fR_uI, fR_nO]
      simp
    · simp only [fI_uR, fI_nA, fI_uI, fI_nO]
      simp
theorem BORN.new {so v k : Int} (h : BORN c e so v k) (hX : FIX c) : FIX e := hX.x h.1 (by decide) (by decide)
theorem bornU_1 {so v k : Int} {y : Nat} : (bornU s so v k).1 y = if y = 8 then s.1 8 + 1 else s.1 y := rfl
/-- links outside of what changed -/
theorem LK.up {A' : Int → Nat} {s' : SM} (h : LK A c s P) (hP : ∀ b, P b → A' b = A b ∧ A' (s.2 12 b) = A (s.2 12 b) ∧ fR e (A b) 5 = fR c (A b) 5 ∧ fI e (A b) 6 = fI c (A b) 6 ∧ s'.2 12 b = s.2 12 b ∧ s'.2 13 b = s.2 13 b) : LK A' e s' P := fun b hb => by
  obtain ⟨e1, e2, e3, e4, e5, e6⟩ := hP b hb
  rw [e5, e6, e1, e2, e3, e4]
  exact h b hb
theorem PT.up {A' : Int → Nat} {s' : SM} (h : PT A c s Q) (hQ : ∀ b i, Q b i → A' b = A b ∧ A' (s.2 14 (3 * b + i)) = A (s.2 14 (3 * b + i)) ∧ aR e (A b + 1) i = aR c (A b + 1) i ∧ s'.2 14 (3 * b + i) = s.2 14 (3 * b + i)) : PT A' e s' Q := fun b i hb => by
  obtain ⟨e1, e2, e3, e4⟩ := hQ b i hb
  rw [e4, e1, e2, e3]
  exact h b i hb
theorem KIc.x {ys : List (Nat × Nat)} {rs : List Nat} (h : KIc c s) (hX : FIX c) (hx : CX ys rs c e) (hy : (4, 4) ∉ ys) (hr : 66 ∉ rs ∧ 67 ∉ rs ∧ 68 ∉ rs ∧ 69 ∉ rs) : KIc e s := by
  have h3 := hX.2.2.1
  have hk : kl c 65 = 4 := by simp only [hX.1]
  refine ⟨(hx.i (by omega) (by rw [hk]; exact hy)).trans h.1, fun k k0 kn => ?_⟩
  rw [hx.ai (a := 66) (by omega) (by unfold rk; rw [if_pos (by decide)]; exact hr.1), hx.ai (a := 67) (by omega) (by unfold rk; rw [if_pos (by decide)]; exact hr.2.1), hx.ai (a := 68) (by omega) (by unfold rk; rw [if_pos (by decide)]; exact hr.2.2.1), hx.ai (a := 69) (by omega) (by unfold rk; rw [if_pos (by decide)]; exact hr.2.2.2)]
  exact h.2 k k0 kn
theorem op_x {ys : List (Nat × Nat)} {rs : List Nat} (h : OP A c s P Q) (hx : CX ys rs c e) (h0 : (5, 0) ∉ ys ∧ (5, 1) ∉ ys ∧ (5, 2) ∉ ys ∧ (5, 3) ∉ ys ∧ (5, 4) ∉ ys) (h5 : (5, 5) ∉ ys ∧ (5, 6) ∉ ys) (h8 : (8, 1) ∉ ys ∧ (8, 4) ∉ ys ∧ (4, 4) ∉ ys) (hf : ∀ q, q ∈ finF → q ∉ ys) (hr : 1103 ∉ rs ∧ 74 ∉ rs ∧ 72 ∉ rs ∧ 193 ∉ rs) (hk : 66 ∉ rs ∧ 67 ∉ rs ∧ 68 ∉ rs ∧ 69 ∉ rs) : OP A e s P Q := by
  obtain ⟨⟨hX, hN, hI⟩, ⟨hL, hP⟩, ⟨ht, h8', ht0, ht8⟩, hKI, hB⟩ := h
  have h3 := hX.2.2.1
  have k70 : kl c 70 = 8 := by simp only [hX.1]
  have at5 : ∀ b, (0 ≤ b ∧ b < s.1 8) → A b < nxt c ∧ ky (A b) (kl c (A b)) = 5 ∧ A b + 1 < nxt c ∧ rk (A b + 1) (kl c (A b + 1)) ∉ rs := fun b hb => by
    obtain ⟨⟨n1, n2, n3, n4, n5, n6, n7, n8⟩, n9, n10⟩ := hN.2 b hb.1 hb.2
    refine ⟨by omega, by rw [ky5 n10, n1], n9, ?_⟩
    rw [n2]
    unfold rk
    split
    · rw [show A b + 1 = 74 by omega]; exact hr.2.1
    · exact hr.1
  refine ⟨⟨hX.x hx hf hr.2.2, hN.x hx h0.1 h0.2.1 h0.2.2.1 h0.2.2.2.1 h0.2.2.2.2, hI⟩, ⟨hL.up (fun b hb => ?_), hP.up (fun b i hb => ?_)⟩, ⟨(hx.r (by omega) (by rw [k70]; exact h8.1)).trans ht, (hx.i (by omega) (by rw [k70]; exact h8.2.1)).trans h8', ht0, ht8⟩, hKI.x hX hx h8.2.2 hk, hB⟩
  · obtain ⟨g1, g2, -⟩ := at5 b (hI.1 b hb).1
    exact ⟨rfl, rfl, hx.r g1 (by rw [g2]; exact h5.1), hx.i g1 (by rw [g2]; exact h5.2), rfl, rfl⟩
  · obtain ⟨-, -, g3, g4⟩ := at5 b (hI.2 b i hb).1
    exact ⟨rfl, rfl, by rw [hx.ar g3 g4], rfl⟩
theorem op_born {so v k : Int} (h : OP A c s P Q) (hb : BORN c e (so) (nvl so v) (kvl so k)) (hB : s.1 8 < 3000) (hso : 0 ≤ so ∧ so < 16) : OP (A1 A (s.1 8) (nxt c)) e (bornU s so v k) P Q ∧ A1 A (s.1 8) (nxt c) (s.1 8) = nxt c ∧ EXT A (A1 A (s.1 8) (nxt c)) (s.1 8) := by
  obtain ⟨⟨hX, hN, hI⟩, ⟨hL, hP⟩, ⟨ht, h8', ht0, ht8⟩, hKI, hB0⟩ := h
  have h3 := hX.2.2.1
  have hE : EXT A (A1 A (s.1 8) (nxt c)) (s.1 8) := EXT_1
  have hx := hb.1
  have k70 : kl c 70 = 8 := by simp only [hX.1]
  have e8 : (bornU s so v k).1 8 = s.1 8 + 1 := rfl
  have hold := bornU_o (s := s) (so := so) (v := v) (k := k)
  have hat := bornU_at (s := s) (so := so) (v := v) (k := k)
  have he := bornU_e (s := s) (so := so) (v := v) (k := k)
  have e12 : (bornU s so v k).2 12 = s.2 12 := he.2 12 (by decide)
  have e13 : (bornU s so v k).2 13 = s.2 13 := he.2 13 (by decide)
  have e14 : (bornU s so v k).2 14 = s.2 14 := he.2 14 (by decide)
  have at5 : ∀ b, (0 ≤ b ∧ b < s.1 8) → A b < nxt c ∧ ky (A b) (kl c (A b)) = 5 ∧ A b + 1 < nxt c := fun b hb => by
    obtain ⟨⟨n1, n2, n3, n4, n5, n6, n7, n8⟩, n9, n10⟩ := hN.2 b hb.1 hb.2
    exact ⟨by omega, by rw [ky5 n10, n1], n9⟩
  have cond : ∀ z, z = -9 ∨ (0 ≤ z ∧ z < s.1 8) → A1 A (s.1 8) (nxt c) z = A z := fun z hz => hE z (by omega)
  refine ⟨⟨⟨hX.x hx (by decide) (by decide), ⟨fun b hb' => ?_, fun b b0 b1 => ?_⟩, ⟨fun b hb' => ?_, fun b i hb' => ?_⟩⟩, ⟨hL.up (fun b hb' => ?_), hP.up (fun b i hb' => ?_)⟩, ⟨?_, ?_, ht0, by rw [e8]; show s.1 15 < s.1 8 + 1; omega⟩, ?_, by rw [e8]; omega⟩, if_pos rfl, hE⟩
  · rw [e8] at hb'
    show (if b = s.1 8 then nxt c else A b) = 2
    rw [if_neg (by omega)]
    exact hN.1 b (by omega)
  · rw [e8] at b1
    show NDb e (if b = s.1 8 then nxt c else A b) b _ _ _ ∧ _
    by_cases q : b = s.1 8
    · subst q
      rw [if_pos rfl, hat.1, hat.2.1, hat.2.2]
      refine ⟨?_, ?_⟩
      · have := hb.2.2.2.1
        rw [h8'] at this
        exact this
      · show (if s.1 8 = s.1 8 then nxt c else A (s.1 8)) + 1 < nxt e ∧ ((if s.1 8 = s.1 8 then nxt c else A (s.1 8)) = 73 ∨ _)
        rw [if_pos rfl, hb.2.1.1]
        exact ⟨by omega, Or.inr (by rw [A1, if_pos rfl]; exact h3)⟩
    · rw [if_neg q]
      obtain ⟨o1, -, -⟩ := hold b (by omega)
      rw [o1.1, o1.2.1, o1.2.2]
      have := (hN.x hx (by decide) (by decide) (by decide) (by decide) (by decide)).2 b b0 (by omega)
      rw [A1, if_neg q]
      exact this
  · obtain ⟨g1, g2⟩ := hI.1 b hb'
    rw [e8, e12]
    omega
  · obtain ⟨g1, g2, g3⟩ := hI.2 b i hb'
    rw [e8, e14, (hold b (by omega)).1.1]
    omega
  · obtain ⟨g1, g2⟩ := hI.1 b hb'
    obtain ⟨a1, a2, a3⟩ := at5 b g1
    exact ⟨cond b (Or.inr g1), cond _ g2, hx.r a1 (by rw [a2]; decide), hx.i a1 (by rw [a2]; decide), by rw [e12], by rw [e13]⟩
  · obtain ⟨g1, g2, g3⟩ := hI.2 b i hb'
    obtain ⟨a1, a2, a3⟩ := at5 b g1
    exact ⟨cond b (Or.inr g1), cond _ (Or.inr g3), by rw [hx.ar a3 (by simp)], by rw [e14]⟩
  · have e15 : (bornU s so v k).1 15 = s.1 15 := rfl
    rw [hx.r (by omega) (by rw [k70]; decide), ht, e15]
    exact (hE _ ht8).symm
  · rw [hb.2.2.1, h8']
    rfl
  · have := hKI.x hX hx (by decide) (by decide)
    exact this
end
end
section
/-! Links put by the desk; what it keeps for undo(). -/
section
variable {iv : List (Int × Int)} {L : Nat} {h0 : MH} {A : Int → Nat} {c e : SC} {s : SM} {t : Term} {d : Nat} {P : Int → Prop} {Q : Int → Int → Prop}
def lys : List (Nat × Nat) := [(5, 5), (5, 6), (8, 1)]
/-- a node with a part has its row behind the first cells -/
theorem big_of (hX : FIX c) (hN : ND A c s) {x : Int} (hx : 0 ≤ x ∧ x < s.1 8) (hp : 0 < pO (s.2 9 x)) : 353 ≤ A x := by
  obtain ⟨⟨n1, n2, n3, n4, n5, n6, n7, n8⟩, n9, n10⟩ := hN.2 x hx.1 hx.2
  rcases n10 with q | q
  · exfalso
    rw [q] at n3
    have : le c 74 = 0 := by simp only [hX.1]
    rw [this] at n3
    omega
  · exact q
theorem op_part {x y i : Int} (h : OP A c s P Q) (hx : 0 ≤ x ∧ x < s.1 8) (hy : 0 ≤ y ∧ y < s.1 8) (hi : 0 ≤ i ∧ i < pO (s.2 9 x)) : OP A (uI (uR (uB c (A x + 1) i (A y)) (A y) 5 (A x)) (A y) 6 i) (partU s x i y) (fun b => P b ∨ b = y) (fun b j => Q b j ∨ (b = x ∧ j = i)) ∧ CX lys [1103] c (uI (uR (uB c (A x + 1) i (A y)) (A y) 5 (A x)) (A y) 6 i) := by
  obtain ⟨⟨hX, hN, hI⟩, ⟨hL, hP⟩, ⟨ht, h8, ht0, ht8⟩, hKI, hB⟩ := h
  have h3 := hX.2.2.1
  have hbig := big_of hX hN hx (by omega)
  have h3p := pO_in (s.2 9 x)
  obtain ⟨⟨n1, n2, n3, n4, n5, n6, n7, n8⟩, n9, n10⟩ := hN.2 x hx.1 hx.2
  obtain ⟨⟨m1, m2, m3, m4, m5, m6, m7, m8⟩, m9, m10⟩ := hN.2 y hy.1 hy.2
  have he := partU_e (s := s) (b := x) (i := i) (c := y)
  have hat := partU_at (s := s) (b := x) (i := i) (c := y)
  have e12 : ∀ b, (partU s x i y).2 12 b = if b = y then x else s.2 12 b := fun b => by
    show (if (12 : Nat) = 13 ∧ b = y then i else if (12 : Nat) = 12 ∧ b = y then x else if (12 : Nat) = 14 ∧ b = 3 * x + i then y else s.2 12 b) = _
    simp
  have e13 : ∀ b, (partU s x i y).2 13 b = if b = y then i else s.2 13 b := fun b => by
    show (if (13 : Nat) = 13 ∧ b = y then i else if (13 : Nat) = 12 ∧ b = y then x else if (13 : Nat) = 14 ∧ b = 3 * x + i then y else s.2 13 b) = _
    simp
  have e14 : ∀ b, (partU s x i y).2 14 b = if b = 3 * x + i then y else s.2 14 b := fun b => by
    show (if (14 : Nat) = 13 ∧ b = y then i else if (14 : Nat) = 12 ∧ b = y then x else if (14 : Nat) = 14 ∧ b = 3 * x + i then y else s.2 14 b) = _
    simp
  have e9 : (partU s x i y).2 9 = s.2 9 := he.2 9 (by decide)
  have ne : ∀ b, b ≠ y → A b ≠ A y := fun b hb q => hb (hN.inj hy q)
  have nx : ∀ b, (0 ≤ b ∧ b < s.1 8) → b ≠ x → A b + 1 ≠ A x + 1 := fun b hb hn q => hn (hN.inj hx (by omega))
  have n70 : A y ≠ 70 := fun q => by
    have : kl c 70 = 8 := by simp only [hX.1]
    rw [q, this] at m1; omega
  have hx1 : CX lys [1103] c (uI (uR (uB c (A x + 1) i (A y)) (A y) 5 (A x)) (A y) 6 i) := by
    refine CX.uI (CX.uR (CX.uB CX.rf (fun _ => ?_)) (fun _ => ?_)) (fun _ => ?_)
    · unfold rk; rw [if_neg (by omega), n2]; decide
    · rw [kl_uB, ky5 m10, m1]; decide
    · rw [kl_uR, kl_uB, ky5 m10, m1]; decide
  refine ⟨⟨⟨hX.x hx1 (by decide) (by decide), ?_, ⟨fun b hb => ?_, fun b j hb => ?_⟩⟩, ⟨fun b hb => ?_, fun b j hb => ?_⟩, ⟨?_, ?_, ?_, ?_⟩, ?_, hB⟩, hx1⟩
  · have := hN.x hx1 (by decide) (by decide) (by decide) (by decide) (by decide)
    unfold ND at this ⊢
    rw [e9, he.2 10 (by decide), he.2 11 (by decide), he.1 8 (by simp)]
    exact this
  · rw [he.1 8 (by simp), e12]
    by_cases q : b = y
    · subst q; rw [if_pos rfl]; exact ⟨hy, Or.inr hx⟩
    · rw [if_neg q]; exact hI.1 b (hb.resolve_right q)
  · rw [he.1 8 (by simp), e9, e14]
    rcases hb with hb | ⟨rfl, rfl⟩
    · obtain ⟨g1, g2, g3⟩ := hI.2 b j hb
      split
      · exact ⟨g1, g2, hy⟩
      · exact ⟨g1, g2, g3⟩
    · rw [if_pos rfl]; exact ⟨hx, hi, hy⟩
  · have f5 : ∀ b, fR (uI (uR (uB c (A x + 1) i (A y)) (A y) 5 (A x)) (A y) 6 i) (A b) 5 = if A b = A y then A x else fR c (A b) 5 := fun b => by
      rw [fR_uI, fR_uR, fR_uB]
      by_cases w : A b = A y
      · rw [if_pos ⟨rfl, w⟩, if_pos w]
      · rw [if_neg (fun v => w v.2), if_neg w]
    have f6 : ∀ b, fI (uI (uR (uB c (A x + 1) i (A y)) (A y) 5 (A x)) (A y) 6 i) (A b) 6 = if A b = A y then i else fI c (A b) 6 := fun b => by
      rw [fI_uI, fI_uR, fI_uB]
      by_cases w : A b = A y
      · rw [if_pos ⟨rfl, w⟩, if_pos w]
      · rw [if_neg (fun v => w v.2), if_neg w]
    rw [f5, f6, e12, e13]
    by_cases q : b = y
    · subst q
      simp
    · rw [if_neg (ne b q), if_neg (ne b q), if_neg q, if_neg q]
      exact hL b (hb.resolve_right q)
  · rw [aR_uI, aR_uR, aR_uB, e14]
    rcases hb with hb | ⟨rfl, rfl⟩
    · obtain ⟨g1, g2, g3⟩ := hI.2 b j hb
      have hpb := pO_in (s.2 9 b)
      by_cases q : b = x ∧ j = i
      · obtain ⟨rfl, rfl⟩ := q
        rw [if_pos ⟨rfl, rfl⟩, if_pos rfl]
      · rw [if_neg (fun w => ?_), if_neg (fun w => ?_)]
        · exact hP b j hb
        · apply q; omega
        · by_cases qb : b = x
          · exact q ⟨qb, w.2⟩
          · exact nx b g1 qb w.1
    · rw [if_pos ⟨rfl, rfl⟩, if_pos rfl]
  · rw [fR_uI, fR_uR, if_neg (by omega), fR_uB, he.1 15 (by simp)]; exact ht
  · rw [fI_uI, if_neg (by omega), fI_uR, fI_uB, he.1 8 (by simp)]; exact h8
  · rw [he.1 15 (by simp)]; exact ht0
  · rw [he.1 15 (by simp), he.1 8 (by simp)]; exact ht8
  · unfold KIc
    rw [he.1 2 (by simp), he.2 4 (by decide), he.2 5 (by decide), he.2 6 (by decide), he.2 7 (by decide)]
    have n65 : A y ≠ 65 := fun q => by
      have : kl c 65 = 4 := by simp only [hX.1]
      rw [q, this] at m1; omega
    refine ⟨?_, hKI.2⟩
    rw [fI_uI, if_neg (by omega)]
    exact hKI.1
theorem hang_c {x y i : Int} {F : SC → Prop} (h : OP A c s P Q) (hx : 0 ≤ x ∧ x < s.1 8) (hy : 0 ≤ y ∧ y < s.1 8) (hi : 0 ≤ i ∧ i < pO (s.2 9 x)) (hF : ∀ e, OP A e (partU s x i y) (fun b => P b ∨ b = y) (fun b j => Q b j ∨ (b = x ∧ j = i)) → CX lys [1103] c e → RMk 0 0 c e → F e) : ck iv L h0 d 188 [vr (A x), vi i, vr (A y)] c (qv F) := by
  obtain ⟨p1, p2⟩ := op_part h hx hy hi
  obtain ⟨⟨n1, n2, n3, n4, n5, n6, n7, n8⟩, n9, n10⟩ := h.1.2.1.2 x hx.1 hx.2
  obtain ⟨⟨m1, m2, m3, m4, m5, m6, m7, m8⟩, m9, m10⟩ := h.1.2.1.2 y hy.1 hy.2
  refine C188 ⟨n1, by rw [n7]; exact n2, by rw [n7, n3]; exact hi, Or.inr m1, m1, ?_⟩
  rw [n7]
  exact hF _ p1 p2 RMk.rf
theorem repl_c {o y : Int} {F : SC → Prop} (h : OP A c s P Q) (ho : P o) (hy : 0 ≤ y ∧ y < s.1 8) (hi : s.2 12 o ≠ -9 → 0 ≤ s.2 13 o ∧ s.2 13 o < pO (s.2 9 (s.2 12 o))) (hF : ∀ e, OP A e (replU s o y) (fun b => P b ∨ b = y) (fun b j => Q b j ∨ (s.2 12 o ≠ -9 ∧ b = s.2 12 o ∧ j = s.2 13 o)) → CX lys [1103] c e → RMk 0 0 c e → F e) : ck iv L h0 (d + 1) 208 [vr 70, vr (A o), vr (A y)] c (qv F) := by
  obtain ⟨hI1, hI2⟩ := h.1.2.2.1 o ho
  obtain ⟨hL1, hL2⟩ := h.2.1.1 o ho
  obtain ⟨⟨n1, n2, n3, n4, n5, n6, n7, n8⟩, n9, n10⟩ := h.1.2.1.2 o hI1.1 hI1.2
  obtain ⟨⟨m1, m2, m3, m4, m5, m6, m7, m8⟩, m9, m10⟩ := h.1.2.1.2 y hy.1 hy.2
  refine C208 ⟨n1, ?_⟩
  rw [hL1]
  by_cases e : s.2 12 o = -9
  · have hA9 : A (s.2 12 o) = 2 := by rw [e]; exact A9 h.1.2.1
    rw [hA9]
    refine ⟨fun q => absurd rfl q, fun _ => ⟨m1, by simp only [h.1.1.1], hF _ ?_ ?_ ?_⟩⟩
    · obtain ⟨⟨hX, hN, hI⟩, ⟨hL, hP⟩, ⟨ht, h8, ht0, ht8⟩, hKI, hB⟩ := h
      have hr : replU s o y = ua (ua (us s 15 y) 12 y (-9)) 13 y (-9) := if_pos e
      have n70 : A y ≠ 70 := fun q => by
        have : kl c 70 = 8 := by simp only [hX.1]
        rw [q, this] at m1; omega
      have hx1 : CX lys [1103] c (uR (uR c (A y) 5 2) 70 1 (A y)) := by
        refine CX.uR (CX.uR CX.rf (fun _ => ?_)) (fun _ => ?_)
        · rw [ky5 m10, m1]; decide
        · rw [kl_uR, show kl c 70 = 8 by simp only [hX.1]]; decide
      rw [hr]
      have e12 : ∀ b, (ua (ua (us s 15 y) 12 y (-9)) 13 y (-9)).2 12 b = if b = y then -9 else s.2 12 b := fun b => by
        show (if (12 : Nat) = 13 ∧ b = y then (-9 : Int) else if (12 : Nat) = 12 ∧ b = y then -9 else s.2 12 b) = _
        simp
      have e13 : ∀ b, b ≠ y → (ua (ua (us s 15 y) 12 y (-9)) 13 y (-9)).2 13 b = s.2 13 b := fun b hb => by
        show (if (13 : Nat) = 13 ∧ b = y then (-9 : Int) else if (13 : Nat) = 12 ∧ b = y then -9 else s.2 13 b) = _
        simp [hb]
      have e14 : (ua (ua (us s 15 y) 12 y (-9)) 13 y (-9)).2 14 = s.2 14 := by
        funext b
        show (if (14 : Nat) = 13 ∧ b = y then (-9 : Int) else if (14 : Nat) = 12 ∧ b = y then -9 else s.2 14 b) = _
        simp
      have e9 : ∀ f, f ≠ 12 → f ≠ 13 → (ua (ua (us s 15 y) 12 y (-9)) 13 y (-9)).2 f = s.2 f := fun f f1 f2 => by
        funext b
        show (if f = 13 ∧ b = y then (-9 : Int) else if f = 12 ∧ b = y then -9 else s.2 f b) = _
        simp [f1, f2]
      have e1 : ∀ f, f ≠ 15 → (ua (ua (us s 15 y) 12 y (-9)) 13 y (-9)).1 f = s.1 f := fun f f1 => by
        show (if f = 15 then y else s.1 f) = _
        simp [f1]
      have ne : ∀ b, b ≠ y → A b ≠ A y := fun b hb q => hb (hN.inj hy q)
      refine ⟨⟨hX.x hx1 (by decide) (by decide), ?_, ⟨fun b hb => ?_, fun b j hb => ?_⟩⟩, ⟨fun b hb => ?_, fun b j hb => ?_⟩, ⟨?_, ?_, ?_, ?_⟩, ?_, hB⟩
      · have := hN.x hx1 (by decide) (by decide) (by decide) (by decide) (by decide)
        unfold ND at this ⊢
        rw [e9 9 (by decide) (by decide), e9 10 (by decide) (by decide), e9 11 (by decide) (by decide), e1 8 (by decide)]
        exact this
      · rw [e1 8 (by decide), e12]
        by_cases q : b = y
        · subst q; rw [if_pos rfl]; exact ⟨hy, Or.inl rfl⟩
        · rw [if_neg q]; exact hI.1 b (hb.resolve_right q)
      · rw [e1 8 (by decide), e9 9 (by decide) (by decide), e14]
        exact hI.2 b j (hb.resolve_right (fun w => w.1 e))
      · rw [fR_uR, if_neg (by omega), fR_uR, e12]
        by_cases q : b = y
        · subst q
          rw [if_pos ⟨rfl, rfl⟩, if_pos rfl]
          exact ⟨(A9 hN).symm, fun w => absurd rfl w⟩
        · rw [if_neg (fun w => ne b q w.2), if_neg q, e13 b q]
          exact hL b (hb.resolve_right q)
      · rw [e14]
        exact hP b j (hb.resolve_right (fun w => w.1 e))
      · rw [fR_uR, if_pos ⟨rfl, rfl⟩]
        rfl
      · rw [e1 8 (by decide)]; exact h8
      · exact hy.1
      · rw [e1 8 (by decide)]; exact hy.2
      · unfold KIc
        rw [e1 2 (by decide), e9 4 (by decide) (by decide), e9 5 (by decide) (by decide), e9 6 (by decide) (by decide), e9 7 (by decide) (by decide)]
        exact hKI
    · refine CX.uR (CX.uR CX.rf (fun _ => ?_)) (fun _ => ?_)
      · rw [ky5 m10, m1]; decide
      · rw [kl_uR, show kl c 70 = 8 by simp only [h.1.1.1]]; decide
    · exact RMk.rf
  · have hu := hI2.resolve_left e
    have hr : replU s o y = partU s (s.2 12 o) (s.2 13 o) y := if_neg e
    refine ⟨fun _ => ⟨(h.1.2.1.2 _ hu.1 hu.2).1.1, ?_⟩, fun q => absurd q (h.1.2.1.ne hu).1⟩
    rw [hL2 e]
    refine hang_c h hu hy (hi e) (fun e' p1 p2 p3 => hF e' ?_ p2 p3)
    rw [hr]
    obtain ⟨⟨hX, hN, hI⟩, ⟨hL, hP⟩, r⟩ := p1
    exact ⟨⟨hX, hN, hI.1, fun b j hb => hI.2 b j (hb.imp id (fun w => w.2))⟩, ⟨hL, fun b j hb => hP b j (hb.imp id (fun w => w.2))⟩, r⟩
end
end
section
/-! What the desk keeps for undo(). -/
/-- only some rows change -/
def SMR (R1 R2 : List Nat) (c f : SC) : Prop := (∀ b y, fI f b y = fI c b y ∧ fR f b y = fR c b y) ∧ (∀ b, kl f b = kl c b ∧ le f b = le c b) ∧ (nxt f = nxt c ∧ slo f = slo c) ∧ (∀ b, b ∉ R2 → aI f b = aI c b) ∧ ∀ b, b ∉ R1 → aR f b = aR c b
theorem SMR.rf {R1 R2 : List Nat} {c : SC} : SMR R1 R2 c c := ⟨fun _ _ => ⟨rfl, rfl⟩, fun _ => ⟨rfl, rfl⟩, ⟨rfl, rfl⟩, fun _ _ => rfl, fun _ _ => rfl⟩
theorem SMR.uA {R1 R2 : List Nat} {c f : SC} {a : Nat} {i z : Int} (h : SMR R1 R2 c f) (ha : a ∈ R2) : SMR R1 R2 c (uA f a i z) := ⟨h.1, h.2.1, h.2.2.1, fun b hb => by
  rw [← h.2.2.2.1 b hb]
  funext k
  rw [aI_uA, if_neg (fun q => hb (by rw [q.1]; exact ha))], h.2.2.2.2⟩
theorem SMR.uB {R1 R2 : List Nat} {c f : SC} {a z : Nat} {i : Int} (h : SMR R1 R2 c f) (ha : a ∈ R1) : SMR R1 R2 c (uB f a i z) := ⟨h.1, h.2.1, h.2.2.1, h.2.2.2.1, fun b hb => by
  rw [← h.2.2.2.2 b hb]
  funext k
  rw [aR_uB, if_neg (fun q => hb (by rw [q.1]; exact ha))]⟩
theorem SMR.cx {R1 R2 : List Nat} {ys : List (Nat × Nat)} {rs : List Nat} {c e f : SC} (h : SMR R1 R2 e f) (hx : CX ys rs c e) (hr : ∀ a, a ∈ R1 ∨ a ∈ R2 → a < 353 ∧ a ∈ rs) : CX ys rs c f := by
  obtain ⟨h1, h2, h3, h4, h5⟩ := h
  have hno : ∀ a, rk a (kl c a) ∉ rs → a ∉ R1 ∧ a ∉ R2 := fun a ha => by
    refine ⟨fun q => ?_, fun q => ?_⟩
    · have := hr a (Or.inl q)
      unfold rk at ha
      rw [if_pos this.1] at ha
      exact ha this.2
    · have := hr a (Or.inr q)
      unfold rk at ha
      rw [if_pos this.1] at ha
      exact ha this.2
  refine ⟨by rw [h3.1]; exact hx.1, fun a ha => ?_, fun a y ha hy => ?_, fun a ha hy => ?_⟩
  · rw [(h2 a).1, (h2 a).2]; exact hx.2.1 a ha
  · rw [(h1 a y).1, (h1 a y).2]; exact hx.2.2.1 a y ha hy
  · rw [h4 a (hno a hy).2, h5 a (hno a hy).1]; exact hx.2.2.2 a ha hy
theorem SMR.fix {R1 R2 : List Nat} {c f : SC} (h : SMR R1 R2 c f) (hX : FIX c) (h72 : 72 ∉ R1) (h193 : 193 ∉ R1) : FIX f := by
  have hx : CX [] [] c c := CX.rf
  obtain ⟨h1, h2, h3, h4, h5⟩ := h
  have e1 : ∀ b y, fR f b y = fR c b y := fun b y => (h1 b y).2
  have e2 : ∀ b, kl f b = kl c b := fun b => (h2 b).1
  have e3 : ∀ b, le f b = le c b := fun b => (h2 b).2
  obtain ⟨g1, ⟨g2, g3⟩, g4, g5⟩ := hX
  refine ⟨?_, ⟨fun i hi => ?_, fun i hi => ?_⟩, by rw [h3.1]; exact g4, by rw [e2]; exact g5⟩
  · unfold FIXa at g1 ⊢
    simp only [e1, e2, e3]; exact g1
  · simp only [e1, e2, e3, h5 72 h72]; exact g2 i hi
  · simp only [e1, e2, e3, h5 193 h193]; exact g3 i hi
/-- a thing that was kept -/
def SNc (A : Int → Nat) (c : SC) (a : Nat) (u : Snap) : Prop := (fI c a 4 = (fl u.1).length ∧ fR c a 5 = A (u.2.1 16)) ∧ ∀ (k : Nat) (x : Int), (fl u.1)[k]? = some x → aR c (a + 1) k = A x ∧ aR c (a + 2) k = A (u.2.2 12 x) ∧ (x ≠ hd u.1 → aI c (a + 3) k = u.2.2 13 x) ∧ aI c (a + 4) k = u.2.2 10 x
def pos (n : Int) (l i : Nat) : Nat := (n.toNat + 21 + i - l) % 20
def KSc (A : Int → Nat) (c : SC) (K : List Snap) : Prop := (fI c 70 7 = K.length ∧ K.length ≤ 20 ∧ 0 ≤ fI c 70 6 ∧ fI c 70 6 < 20) ∧ ∀ (i : Nat) (u : Snap), K[i]? = some u → SNc A c (75 + 5 * pos (fI c 70 6) K.length i) u
def snR : List Nat := [76, 77, 78, 79, 81, 82, 83, 84, 86, 87, 88, 89, 91, 92, 93, 94, 96, 97, 98, 99, 101, 102, 103, 104, 106, 107, 108, 109, 111, 112, 113, 114, 116, 117, 118, 119, 121, 122, 123, 124, 126, 127, 128, 129, 131, 132, 133, 134, 136, 137, 138, 139, 141, 142, 143, 144, 146, 147, 148, 149, 151, 152, 153, 154, 156, 157, 158, 159, 161, 162, 163, 164, 166, 167, 168, 169, 171, 172, 173, 174]
theorem snR_mem {i : Nat} (h : i < 20) {j : Nat} (hj : j < 4) : 76 + 5 * i + j ∈ snR := by
  have h1 : (List.range 20).all (fun i => (List.range 4).all (fun j => decide (76 + 5 * i + j ∈ snR))) = true := by decide +kernel
  have := List.all_eq_true.mp (List.all_eq_true.mp h1 i (List.mem_range.mpr h)) j (List.mem_range.mpr hj)
  exact of_decide_eq_true this
section
variable {iv : List (Int × Int)} {L : Nat} {h0 : MH} {A : Int → Nat} {c e : SC} {s : SM} {t : Term} {d : Nat}
theorem noteAll_ok {i : Nat} {F : SC → Prop} (hi : i < 20) (hX : FIX c) (hN : ND A c s) (hH : HG A c s t) (hL : LST A c t) (h : SHT s t) (hc : fR c 70 2 = A (s.1 16)) (hF : ∀ e, SMR [76 + 5 * i, 77 + 5 * i] [78 + 5 * i, 79 + 5 * i] (uR (uI c (75 + 5 * i) 4 (fl t).length) (75 + 5 * i) 5 (A (s.1 16))) e → SNc A e (75 + 5 * i) (t, s) → F e) : ck iv L h0 d 222 [vr (75 + 5 * i), vr 70] c (qv F) := by
  have hk : kl c 70 = 8 ∧ fR c 70 0 = 71 ∧ kl c 71 = 103 ∧ le c 71 = 60 := by simp only [hX.1]; exact ⟨trivial, trivial, trivial, trivial⟩
  obtain ⟨p1, p2, ⟨p3, p4, p5, p6⟩, ⟨p7, p8, p9, p10⟩, p11, p12, p13, p14⟩ := hX.2.1.1 i hi
  generalize hc0 : uR (uI c (75 + 5 * i) 4 (fl t).length) (75 + 5 * i) 5 (A (s.1 16)) = c0 at hF
  have l60 := h.2.2.2.1
  have key : ∀ (m p : List Int) (f : SC), fl t = p ++ m → SMR [76 + 5 * i, 77 + 5 * i] [78 + 5 * i, 79 + 5 * i] c0 f → (∀ (k : Nat) (x : Int), p[k]? = some x → aR f (76 + 5 * i) k = A x ∧ aR f (77 + 5 * i) k = A (s.2 12 x) ∧ (x ≠ hd t → aI f (78 + 5 * i) k = s.2 13 x) ∧ aI f (79 + 5 * i) k = s.2 10 x) → wk iv L h0 d 222 18 [lr (75 + 5 * i), lr 70, li p.length] [] f (qv F) := by
    intro m
    induction m with
    | nil =>
      intro p f hp hf hj
      have e4 : fI f (75 + 5 * i) 4 = (fl t).length := by
        rw [(hf.1 _ _).1, ← hc0, fI_uR, fI_uI, if_pos ⟨rfl, rfl⟩]
      have e5 : fR f (75 + 5 * i) 5 = A (s.1 16) := by
        rw [(hf.1 _ _).2, ← hc0, fR_uR, if_pos ⟨rfl, rfl⟩]
      have ekl : kl f (75 + 5 * i) = 9 := by rw [(hf.2.1 _).1, ← hc0, kl_uR, kl_uI]; exact p2
      rw [List.append_nil] at hp
      refine C222_18 ⟨ekl, fun _ => hF f hf ⟨⟨e4, e5⟩, ?_⟩, fun q => ?_⟩
      · intro k x hk
        have hk : (fl t)[k]? = some x := hk
        rw [hp] at hk
        have := hj k x hk
        rw [show 75 + 5 * i + 1 = 76 + 5 * i by omega, show 75 + 5 * i + 2 = 77 + 5 * i by omega, show 75 + 5 * i + 3 = 78 + 5 * i by omega, show 75 + 5 * i + 4 = 79 + 5 * i by omega]
        exact this
      · rw [e4, hp] at q; omega
    | cons x m ih =>
      intro p f hp hf hj
      have hxm : x ∈ fl t := by rw [hp]; simp
      have hget : (fl t)[p.length]? = some x := by rw [hp]; simp
      have hlen : p.length + 1 ≤ 60 := by
        rw [hp] at l60
        simp at l60
        omega
      have hX0 : FIX c0 := by
        rw [← hc0]
        exact hX.x (ys := [(9, 4), (9, 5)]) (rs := []) ((CX.rf.uI (fun _ => by rw [show ky (75 + 5 * i) (kl c (75 + 5 * i)) = 9 by rw [p2]; unfold ky; rw [if_neg (by omega)]]; decide)).uR (fun _ => by rw [kl_uI, show ky (75 + 5 * i) (kl c (75 + 5 * i)) = 9 by rw [p2]; unfold ky; rw [if_neg (by omega)]]; decide)) (by decide) (by decide)
      have hXf : FIX f := hf.fix hX0 (by simp; omega) (by simp; omega)
      obtain ⟨o1, o2, ⟨o3, o4, o5, o6⟩, ⟨o7, o8, o9, o10⟩, o11, o12, o13, o14⟩ := hXf.2.1.1 i hi
      have hkf : kl f 70 = 8 ∧ fR f 70 0 = 71 ∧ kl f 71 = 103 ∧ le f 71 = 60 := by simp only [hXf.1]; exact ⟨trivial, trivial, trivial, trivial⟩
      obtain ⟨⟨n1, n2, n3, n4, n5, n6, n7, n8⟩, n9, n10⟩ := hN.2 x (h.m x hxm).1 (h.m x hxm).2
      obtain ⟨q1, q2, q3⟩ := hH.1 x hxm
      have hAx : A x ≠ 75 + 5 * i := by omega
      have hf5 : fR f (A x) 5 = A (s.2 12 x) := by rw [(hf.1 _ _).2, ← hc0, fR_uR, if_neg (fun w => hAx w.2)]; exact q1
      have hf6 : x ≠ hd t → fI f (A x) 6 = s.2 13 x := fun q => by rw [(hf.1 _ _).1, ← hc0, fI_uR, fI_uI, if_neg (fun w => hAx w.2)]; exact q2 q
      have hf4 : fI f (A x) 4 = s.2 10 x := by rw [(hf.1 _ _).1, ← hc0, fI_uR, fI_uI, if_neg (fun w => hAx w.2)]; exact n8
      have hkx : kl f (A x) = 5 := by rw [(hf.2.1 _).1, ← hc0]; exact n1
      have ho : aR f 71 (p.length : Int) = A x := by
        rw [hf.2.2.2.2 71 (by simp; omega), ← hc0]
        exact (hL.2 p.length x hget).1
      have e4 : fI f (75 + 5 * i) 4 = (fl t).length := by
        rw [(hf.1 _ _).1, ← hc0, fI_uR, fI_uI, if_pos ⟨rfl, rfl⟩]
      have hup : A (s.2 12 x) = 2 ∨ kl f (A (s.2 12 x)) = 5 := by
        by_cases w : s.2 12 x = -9
        · left; rw [w]; exact A9 hN
        · right
          have hu := h.up9 hxm (fun q => w (by rw [q]; exact h.2.2.2.2.2.2.1))
          rw [(hf.2.1 _).1, ← hc0]
          exact (hN.2 _ (h.m _ hu).1 (h.m _ hu).2).1.1
      have hl : (fl t).length = p.length + (m.length + 1) := by rw [hp]; simp
      refine C222_18 ⟨o2, fun q => by rw [e4] at q; omega, fun _ => ?_⟩
      rw [hkf.1, hkf.2.1, hkf.2.2.1, hkf.2.2.2, o3, o4, o5, o6, o7, o8, o9, o10, o11, o12, o13, o14, ho, hf5, hf4, hkx]
      refine ⟨rfl, rfl, by omega, rfl, by omega, Or.inr rfl, rfl, rfl, by omega, hup, rfl, by omega, rfl, by omega, by omega, ?_⟩
      generalize hE : uA (uA (uB (uB f (76 + 5 * i) (p.length : Int) (A x)) (77 + 5 * i) (p.length : Int) (A (s.2 12 x))) (78 + 5 * i) (p.length : Int) (fI f (A x) 6)) (79 + 5 * i) (p.length : Int) (s.2 10 x) = g
      have hg : SMR [76 + 5 * i, 77 + 5 * i] [78 + 5 * i, 79 + 5 * i] c0 g := by
        rw [← hE]
        exact (((hf.uB (by simp)).uB (by simp)).uA (by simp)).uA (by simp)
      have r1 : ∀ k : Int, aR g (76 + 5 * i) k = if k = p.length then A x else aR f (76 + 5 * i) k := fun k => by
        rw [← hE, aR_uA, aR_uA, aR_uB, if_neg (by omega), aR_uB]
        by_cases w : k = p.length
        · rw [if_pos ⟨rfl, w⟩, if_pos w]
        · rw [if_neg (fun v => w v.2), if_neg w]
      have r2 : ∀ k : Int, aR g (77 + 5 * i) k = if k = p.length then A (s.2 12 x) else aR f (77 + 5 * i) k := fun k => by
        rw [← hE, aR_uA, aR_uA, aR_uB]
        by_cases w : k = p.length
        · rw [if_pos ⟨rfl, w⟩, if_pos w]
        · rw [if_neg (fun v => w v.2), if_neg w, aR_uB, if_neg (by omega)]
      have r3 : ∀ k : Int, aI g (78 + 5 * i) k = if k = p.length then fI f (A x) 6 else aI f (78 + 5 * i) k := fun k => by
        rw [← hE, aI_uA, if_neg (by omega), aI_uA]
        by_cases w : k = p.length
        · rw [if_pos ⟨rfl, w⟩, if_pos w]
        · rw [if_neg (fun v => w v.2), if_neg w]; rfl
      have r4 : ∀ k : Int, aI g (79 + 5 * i) k = if k = p.length then s.2 10 x else aI f (79 + 5 * i) k := fun k => by
        rw [← hE, aI_uA]
        by_cases w : k = p.length
        · rw [if_pos ⟨rfl, w⟩, if_pos w]
        · rw [if_neg (fun v => w v.2), if_neg w, aI_uA, if_neg (by omega)]; rfl
      have := ih (p ++ [x]) g (by rw [hp]; simp) hg (fun k y hy => ?_)
      · rw [List.length_append] at this
        simp only [List.length_cons, List.length_nil] at this
        push_cast at this
        exact this
      · rw [r1, r2, r3, r4]
        by_cases hkl : k < p.length
        · rw [List.getElem?_append_left hkl] at hy
          rw [if_neg (by omega), if_neg (by omega), if_neg (by omega), if_neg (by omega)]
          exact hj k y hy
        · rw [List.getElem?_append_right (by omega)] at hy
          have hk0 : k - p.length = 0 := by
            cases hq : k - p.length with
            | zero => rfl
            | succ z => rw [hq] at hy; simp at hy
          rw [hk0] at hy
          simp at hy
          subst hy
          have hkp : (k : Int) = p.length := by omega
          rw [if_pos hkp, if_pos hkp, if_pos hkp, if_pos hkp]
          exact ⟨rfl, rfl, hf6, rfl⟩
  refine C222 ⟨hk.1, p2, ?_⟩
  rw [hL.1, hc, hc0]
  exact key (fl t) [] c0 rfl SMR.rf (fun k x hk => by simp at hk)
end
end
section
/-! The desk remembers its sheet. -/
def kys : List (Nat × Nat) := [(8, 6), (8, 7), (9, 4), (9, 5)]
section
variable {iv : List (Int × Int)} {L : Nat} {h0 : MH} {A : Int → Nat} {c e : SC} {s : SM} {t : Term} {d : Nat}
theorem SNc.up {a : Nat} {u : Snap} (h : SNc A c a u) (h1 : fI e a 4 = fI c a 4 ∧ fR e a 5 = fR c a 5) (h2 : aR e (a + 1) = aR c (a + 1) ∧ aR e (a + 2) = aR c (a + 2) ∧ aI e (a + 3) = aI c (a + 3) ∧ aI e (a + 4) = aI c (a + 4)) : SNc A e a u := by
  unfold SNc
  rw [h1.1, h1.2, h2.1, h2.2.1, h2.2.2.1, h2.2.2.2]
  exact h
theorem mod20 {n : Int} (h0 : 0 ≤ n) (h1 : n < 20) : (n + 1) - (n + 1).tdiv 20 * 20 = if n = 19 then 0 else n + 1 := by
  by_cases e : n = 19
  · subst e; decide
  · rw [if_neg e, Int.tdiv_eq_zero_of_lt (by omega) (by omega)]; omega
theorem push_get {K : List Snap} {u w : Snap} {i : Nat} (h : (push K u)[i]? = some w) (h20 : K.length ≤ 20) : ((push K u).length = if K.length = 20 then 20 else K.length + 1) ∧ ((i + 1 = (push K u).length ∧ w = u) ∨ (i + 1 < (push K u).length ∧ K[if K.length = 20 then i + 1 else i]? = some w)) := by
  unfold push at h ⊢
  have hlen : ((if K.length = 20 then K.tail else K) ++ [u]).length = if K.length = 20 then 20 else K.length + 1 := by
    rw [List.length_append]
    by_cases q : K.length = 20
    · rw [if_pos q, if_pos q, List.length_tail, q]; rfl
    · rw [if_neg q, if_neg q]; rfl
  refine ⟨hlen, ?_⟩
  rw [hlen]
  by_cases q : K.length = 20
  · rw [if_pos q] at h ⊢
    have hl : K.tail.length = 19 := by rw [List.length_tail, q]
    by_cases hi : i < 19
    · rw [List.getElem?_append_left (by omega), List.getElem?_tail] at h
      right
      exact ⟨by omega, by rw [if_pos q]; exact h⟩
    · rw [List.getElem?_append_right (by omega)] at h
      left
      have : i - K.tail.length = 0 := by
        cases hq : i - K.tail.length with
        | zero => rfl
        | succ z => rw [hq] at h; simp at h
      rw [this] at h
      simp at h
      exact ⟨by omega, h.symm⟩
  · rw [if_neg q] at h ⊢
    by_cases hi : i < K.length
    · rw [List.getElem?_append_left hi] at h
      right
      exact ⟨by omega, by rw [if_neg q]; exact h⟩
    · rw [List.getElem?_append_right (by omega)] at h
      left
      have : i - K.length = 0 := by
        cases hq : i - K.length with
        | zero => rfl
        | succ z => rw [hq] at h; simp at h
      rw [this] at h
      simp at h
      exact ⟨by omega, h.symm⟩
theorem remember_ok {K : List Snap} {F : SC → Prop} (hX : FIX c) (hN : ND A c s) (hH : HG A c s t) (hL : LST A c t) (h : SHT s t) (hc : fR c 70 2 = A (s.1 16)) (hK : KSc A c K) (hF : ∀ e, CX kys snR c e → RMk 0 0 c e → KSc A e (push K (t, s)) → F e) : ck iv L h0 (d + 1) 219 [vr 70] c (qv F) := by
  obtain ⟨⟨k1, k2, k3, k4⟩, k5⟩ := hK
  have hk : kl c 70 = 8 ∧ fR c 70 5 = 72 ∧ kl c 72 = 104 ∧ le c 72 = 20 := by simp only [hX.1]; exact ⟨trivial, trivial, trivial, trivial⟩
  have hm := mod20 k3 k4
  generalize hn : fI c 70 6 = n at *
  have hm0 : 0 ≤ (if n = 19 then (0 : Int) else n + 1) ∧ (if n = 19 then (0 : Int) else n + 1) < 20 := by split <;> omega
  have hi : (if n = 19 then (0 : Int) else n + 1).toNat < 20 := by omega
  have hix : (if n = 19 then (0 : Int) else n + 1) = (((if n = 19 then (0 : Int) else n + 1).toNat : Nat) : Int) := by omega
  have hin : (if n = 19 then (0 : Int) else n + 1).toNat = (n.toNat + 1) % 20 := by split <;> omega
  generalize hI : (if n = 19 then (0 : Int) else n + 1).toNat = i at *
  have htd : (n + 1).tdiv 20 = if n = 19 then 1 else 0 := by
    by_cases q : n = 19
    · subst q; decide
    · rw [if_neg q, Int.tdiv_eq_zero_of_lt (by omega) (by omega)]
  refine C219 ⟨hk.1, ?_⟩
  rw [hn, hm, hk.2.1, hk.2.2.1, hk.2.2.2]
  have e6 : fI (uI c 70 6 (if n = 19 then 0 else n + 1)) 70 6 = (i : Int) := by rw [fI_uI, if_pos ⟨rfl, rfl⟩, hix]
  obtain ⟨p1, p2, ⟨p3, p4, p5, p6⟩, ⟨p7, p8, p9, p10⟩, p11, p12, p13, p14⟩ := hX.2.1.1 i hi
  rw [e6, p1, p2]
  refine ⟨by omega, by rw [htd]; split <;> omega, by omega, rfl, by omega, rfl, ?_⟩
  generalize hc1 : uI c 70 6 (if n = 19 then 0 else n + 1) = c1
  have hx1 : CX kys snR c c1 := by rw [← hc1]; exact CX.rf.uI (fun _ => by rw [hk.1]; decide)
  have hX1 := hX.x hx1 (by decide) (by decide)
  have hN1 := hN.x hx1 (by decide) (by decide) (by decide) (by decide) (by decide)
  have hH1 := hH.x hN h.m hX hx1 (by decide) (by decide) (by decide) (by decide)
  have hL1 := hL.x hN h.m hX hx1 (by decide) (by decide) (by decide)
  have hcc1 : fR c1 70 2 = A (s.1 16) := by rw [← hc1]; exact hc
  refine noteAll_ok hi hX1 hN1 hH1 hL1 h hcc1 (fun e he hS => ?_)
  have hky : ky (75 + 5 * i) (kl c1 (75 + 5 * i)) = 9 := by
    rw [← hc1, kl_uI, p2]; unfold ky; rw [if_neg (by omega)]
  have hx2 : CX kys snR c (uR (uI c1 (75 + 5 * i) 4 (fl t).length) (75 + 5 * i) 5 (A (s.1 16))) := (hx1.uI (fun _ => by rw [hky]; decide)).uR (fun _ => by rw [kl_uI, hky]; decide)
  have hxe : CX kys snR c e := he.cx hx2 (fun a ha => by
    have ha : a = 76 + 5 * i ∨ a = 77 + 5 * i ∨ a = 78 + 5 * i ∨ a = 79 + 5 * i := by simp at ha; omega
    refine ⟨by omega, ?_⟩
    rcases ha with rfl | rfl | rfl | rfl
    · exact snR_mem hi (j := 0) (by decide)
    · have := snR_mem hi (j := 1) (by decide); rwa [show 76 + 5 * i + 1 = 77 + 5 * i by omega] at this
    · have := snR_mem hi (j := 2) (by decide); rwa [show 76 + 5 * i + 2 = 78 + 5 * i by omega] at this
    · have := snR_mem hi (j := 3) (by decide); rwa [show 76 + 5 * i + 3 = 79 + 5 * i by omega] at this)
  have f7 : fI e 70 7 = K.length := by
    rw [(he.1 _ _).1, fI_uR, fI_uI, if_neg (by omega), ← hc1, fI_uI, if_neg (by omega)]; exact k1
  have f6 : fI e 70 6 = (i : Int) := by
    rw [(he.1 _ _).1, fI_uR, fI_uI, if_neg (by omega), ← hc1, fI_uI, if_pos ⟨rfl, rfl⟩, hix]
  have hke : kl e 70 = 8 := by rw [(he.2.1 _).1, kl_uR, kl_uI, ← hc1, kl_uI]; exact hk.1
  have h60 : (push K (t, s)).length = if K.length = 20 then 20 else K.length + 1 := by
    unfold push
    rw [List.length_append]
    by_cases q : K.length = 20
    · rw [if_pos q, if_pos q, List.length_tail, q]; rfl
    · rw [if_neg q, if_neg q]; rfl
  rw [f7]
  refine ⟨hke, by omega, hF _ (hxe.uI (fun _ => by rw [hke]; decide)) ?_ ⟨⟨?_, ?_, ?_, ?_⟩, fun j w hj => ?_⟩⟩
  · exact ⟨by rw [nx_uI, he.2.2.1.1, nx_uR, nx_uI, ← hc1, nx_uI]; omega, by rw [sl_uI, he.2.2.1.2, sl_uR, sl_uI, ← hc1, sl_uI]; omega⟩
  · rw [fI_uI, if_pos ⟨rfl, rfl⟩, h60]
    by_cases q : K.length = 20
    · rw [if_pos q, if_pos (by omega)]; rfl
    · rw [if_neg q, if_neg (by omega)]; push_cast; rfl
  · rw [h60]; split <;> omega
  · rw [fI_uI, if_neg (by omega), f6]; omega
  · rw [fI_uI, if_neg (by omega), f6]; omega
  · obtain ⟨g1, g2⟩ := push_get hj k2
    have f6' : fI (uI e 70 7 (if 20 < (K.length : Int) + 1 then 20 else (K.length : Int) + 1)) 70 6 = (i : Int) := by rw [fI_uI, if_neg (show ¬ (6 = 7 ∧ 70 = 70) by omega)]; exact f6
    rw [f6']
    have hup : ∀ (b : Nat) (w : Snap), SNc A e b w → SNc A (uI e 70 7 (if 20 < (K.length : Int) + 1 then 20 else (K.length : Int) + 1)) b w := fun b w hb => by
      refine hb.up ⟨?_, rfl⟩ ⟨rfl, rfl, rfl, rfl⟩
      rw [fI_uI, if_neg (show ¬ (4 = 7 ∧ b = 70) by omega)]
    rcases g2 with ⟨g2, rfl⟩ | ⟨g2, g3⟩
    · have hp : pos (i : Int) (push K (t, s)).length j = i := by unfold pos; omega
      rw [hp]
      exact hup _ _ hS
    · have hlt : (if K.length = 20 then j + 1 else j) < K.length := (List.getElem?_eq_some_iff.mp g3).1
      have hp : pos (i : Int) (push K (t, s)).length j = pos n K.length (if K.length = 20 then j + 1 else j) := by
        rw [g1]
        unfold pos
        by_cases q : K.length = 20
        · rw [if_pos q, if_pos q]; omega
        · rw [if_neg q, if_neg q]; omega
      have hpn : pos n K.length (if K.length = 20 then j + 1 else j) ≠ i := by
        rw [hin]
        unfold pos
        by_cases q : K.length = 20
        · rw [if_pos q] at hlt ⊢
          rw [if_pos q] at g1
          omega
        · rw [if_neg q] at hlt ⊢; omega
      have hp20 : pos n K.length (if K.length = 20 then j + 1 else j) < 20 := by unfold pos; omega
      rw [hp]
      have hS2 := k5 _ w g3
      generalize pos n K.length (if K.length = 20 then j + 1 else j) = q at hS2 hpn hp20 ⊢
      refine hup _ _ (hS2.up ⟨?_, ?_⟩ ⟨?_, ?_, ?_, ?_⟩)
      · rw [(he.1 _ _).1, fI_uR, fI_uI, if_neg (by omega), ← hc1, fI_uI, if_neg (by omega)]
      · rw [(he.1 _ _).2, fR_uR, if_neg (by omega), fR_uI, ← hc1, fR_uI]
      · rw [he.2.2.2.2 _ (by simp; omega), aR_uR, aR_uI, ← hc1, aR_uI]
      · rw [he.2.2.2.2 _ (by simp; omega), aR_uR, aR_uI, ← hc1, aR_uI]
      · rw [he.2.2.2.1 _ (by simp; omega), aI_uR, aI_uI, ← hc1, aI_uI]
      · rw [he.2.2.2.1 _ (by simp; omega), aI_uR, aI_uI, ← hc1, aI_uI]
end
end
section
/-! What links the desk and the reference between calls, first part; acts: the frame. -/
def R1 (A : Int → Nat) (c : SC) (s : SM) (t : Term) : Prop := (FIX c ∧ ND A c s ∧ HG A c s t ∧ LST A c t) ∧ (fR c 70 2 = A (s.1 16) ∧ fI c 70 4 = s.1 8) ∧ KIc c s ∧ JUc A c s t
/-- what acts may write -/
def acY : List (Nat × Nat) := [(5, 7), (8, 3), (5, 8), (5, 9), (5, 10), (25, 8), (25, 9), (25, 10), (4, 5), (5, 4), (5, 5), (5, 6), (8, 1), (8, 2), (8, 4), (8, 6), (8, 7), (9, 4), (9, 5), (1, 15)]
def acR : List Nat := 1103 :: 71 :: 66 :: 67 :: 68 :: 69 :: snR
def tyY : List (Nat × Nat) := (1, 15) :: (8, 2) :: sys
section
variable {iv : List (Int × Int)} {L : Nat} {h0 : MH} {A A' : Int → Nat} {c e : SC} {s : SM} {t : Term} {d : Nat} {P : Int → Prop} {Q : Int → Int → Prop}
theorem FIX.dk (h : FIX c) : kl c 64 = 1 ∧ kl c 70 = 8 ∧ fR c 64 1 = 70 ∧ fR c 64 0 = 65 ∧ kl c 65 = 4 := by
  simp only [h.1]
  exact ⟨trivial, trivial, trivial, trivial, trivial⟩
theorem op_of (h : R1 A c s t) (hT : SHT s t) : OP A c s (fun x => x ∈ fl t) (fun b i => b ∈ fl t ∧ 0 ≤ i ∧ i < pO (s.2 9 b)) := by
  obtain ⟨⟨hX, hN, hH, hL⟩, ⟨hc, h8⟩, hI, hJ⟩ := h
  refine ⟨⟨hX, hN, ⟨fun b hb => ⟨hT.m b hb, ?_⟩, fun b i hb => ⟨hT.m b hb.1, hb.2, ?_⟩⟩⟩, ⟨fun b hb => ⟨(hH.1 b hb).1, fun q => (hH.1 b hb).2.1 (fun e => q (by rw [e]; exact hT.2.2.2.2.2.2.1))⟩, fun b i hb => (hH.1 b hb.1).2.2 i hb.2.1 hb.2.2⟩, ⟨by rw [hH.2, hT.2.2.2.2.2.1], h8, ?_, ?_⟩, hI, hT.2.2.2.2.1⟩
  · by_cases e : b = hd t
    · left; rw [e]; exact hT.2.2.2.2.2.2.1
    · right; exact hT.m _ (hT.up9 hb e)
  · exact hT.m _ ((AT_mem t hT.1 b hb.1).2.2.1 i hb.2.1 hb.2.2 (fun e => by have := hT.2.1; unfold full at this; rw [e] at hb; omega)).1
  · rw [← hT.2.2.2.2.2.1]; exact (hT.m _ (hd_mem t hT.1)).1
  · rw [← hT.2.2.2.2.2.1]; exact (hT.m _ (hd_mem t hT.1)).2
theorem op_HG (h : OP A c s P Q) (hT : SHT s t) (hP : ∀ x, x ∈ fl t → P x) (hQ : ∀ x i, x ∈ fl t → 0 ≤ i → i < pO (s.2 9 x) → Q x i) : HG A c s t := by
  obtain ⟨-, ⟨hL, hPT⟩, ⟨ht, -⟩, -⟩ := h
  refine ⟨fun x hx => ⟨(hL x (hP x hx)).1, fun q => (hL x (hP x hx)).2 (fun w => ?_), fun i i0 i1 => hPT x i (hQ x i hx i0 i1)⟩, by rw [ht, hT.2.2.2.2.2.1]⟩
  have := (hT.m _ (hT.up9 hx q)).1
  omega
theorem op_cur {y : Int} (h : OP A c s P Q) : OP A (uR c 70 2 (A y)) (us s 16 y) P Q := by
  obtain ⟨⟨hX, hN, hI⟩, ⟨hL, hP⟩, ⟨ht, h8, ht0, ht8⟩, hKI, hB⟩ := h
  have hk := hX.dk
  have hx : CX [(8, 2)] [] c (uR c 70 2 (A y)) := CX.rf.uR (fun _ => by rw [hk.2.1]; decide)
  have n70 : ∀ b, (0 ≤ b ∧ b < s.1 8) → A b ≠ 70 := fun b hb q => by
    have := (hN.2 b hb.1 hb.2).1.1
    rw [q, hk.2.1] at this
    omega
  refine ⟨⟨hX.x hx (by decide) (by decide), hN.x hx (by decide) (by decide) (by decide) (by decide) (by decide), hI⟩, ⟨fun b hb => ?_, hP⟩, ⟨?_, h8, ht0, ht8⟩, hKI, hB⟩
  · rw [fR_uR, if_neg (fun q => absurd q.1 (by decide))]
    exact hL b hb
  · rw [fR_uR, if_neg (by omega)]
    exact ht
/-- behind an act: listed, judged -/
theorem changed0_ok {F : SC → Prop} (h : OP A c s P Q) (hc : fR c 70 2 = A (s.1 16)) (hT : AFT s t) (hK : KIs s) (hP : ∀ x, x ∈ fl t → P x) (hQ : ∀ x i, x ∈ fl t → 0 ≤ i → i < pO (s.2 9 x) → Q x i) (hD : 232 ≤ d) (hF : ∀ e, R1 A e s t → CX tyY srs c e → RMk 0 0 c e → fI e 64 15 = 1 → F e) : ck iv L h0 d 52 [vr 64] c (qv F) := by
  obtain ⟨d, rfl⟩ : ∃ k, d = k + 1 := ⟨d - 1, by omega⟩
  obtain ⟨hS, hB, hcm⟩ := hT
  have hH := op_HG h hS hP hQ
  obtain ⟨⟨hX, hN, hI⟩, hLP, ⟨ht, h8, ht0, ht8⟩, hKI, hB8⟩ := h
  have hk := hX.dk
  have h3 := hX.2.2.1
  refine C52 ⟨hk.1, ?_⟩
  have hx : CX tyY srs c (uI c 64 15 1) := CX.rf.uI (fun _ => by rw [hk.1]; decide)
  refine settle_ok (hX.x hx (by decide) (by decide)) (hN.x hx (by decide) (by decide) (by decide) (by decide) (by decide)) (hH.x hN hS.m hX hx (by decide) (by decide) (by decide) (by decide)) hS hB hK ?_ (by omega) (fun e hxe hre hL hI2 hJ => ?_)
  · refine ⟨?_, hKI.2⟩
    rw [fI_uI, if_neg (by omega)]
    exact hKI.1
  · have hxc := hx.tr (hxe.up (ys' := tyY) (rs' := srs) (by decide) (fun _ q => q))
    have hX1 : FIX (uI c 64 15 1) := hX.x hx (by decide) (by decide)
    have hk1 := hX1.dk
    refine hF e ⟨⟨hX.x hxc (by decide) (by decide), hN.x hxc (by decide) (by decide) (by decide) (by decide) (by decide), hH.x hN hS.m hX hxc (by decide) (by decide) (by decide) (by decide), hL⟩, ⟨?_, ?_⟩, hI2, hJ⟩ hxc hre ?_
    · rw [hxe.r (a := 70) (by show 70 < nxt c; omega) (by rw [hk1.2.1]; decide)]
      exact hc
    · rw [hxc.i (a := 70) (by omega) (by rw [hk.2.1]; decide)]
      exact h8
    · rw [hxe.i (a := 64) (by show 64 < nxt c; omega) (by rw [hk1.1]; decide), fI_uI, if_pos ⟨rfl, rfl⟩]
theorem changed_ok {y : Int} {F : SC → Prop} (h : OP A c s P Q) (hT : AFT (us s 16 y) t) (hK : KIs s) (hP : ∀ x, x ∈ fl t → P x) (hQ : ∀ x i, x ∈ fl t → 0 ≤ i → i < pO (s.2 9 x) → Q x i) (hD : 232 ≤ d) (hF : ∀ e, R1 A e (us s 16 y) t → CX tyY srs c e → RMk 0 0 c e → fI e 64 15 = 1 → F e) : ck iv L h0 d 52 [vr 64] (uR c 70 2 (A y)) (qv F) := by
  have hk := h.1.1.dk
  have hx : CX tyY srs c (uR c 70 2 (A y)) := CX.rf.uR (fun _ => by rw [hk.2.1]; decide)
  refine changed0_ok (op_cur h) ?_ hT hK hP hQ hD (fun e h1 h2 h3 h4 => hF e h1 (hx.tr h2) h3 h4)
  rw [fR_uR, if_pos ⟨rfl, rfl⟩]
  rfl
theorem lacks_c {n : Int} {F : Int → SC → Prop} (hX : FIX c) (h8 : fI c 70 4 = s.1 8) (hB : 0 ≤ s.1 8 ∧ s.1 8 ≤ 3000) (hn : 0 ≤ n ∧ n ≤ 100) (H1 : s.1 8 + n ≤ 3000 → F 0 c) (H2 : 3000 < s.1 8 + n → F 1 c) : ck iv L h0 d 205 [vr 70, vi n] c (qi F) := by
  refine C205 ⟨hX.dk.2.1, ?_⟩
  rw [h8]
  exact ⟨by omega, H1, H2⟩
/-- kept things stay -/
theorem KSc.x {ys : List (Nat × Nat)} {rs : List Nat} {K : List Snap} (h : KSc A c K) (hX : FIX c) (hE : EXT A A' (s.1 8)) (hB : 0 ≤ s.1 8) (hK : ∀ u, u ∈ K → KP s u) (hx : CX ys rs c e) (hy : (8, 6) ∉ ys ∧ (8, 7) ∉ ys ∧ (9, 4) ∉ ys ∧ (9, 5) ∉ ys) (hr : ∀ a, a ∈ snR → a ∉ rs) : KSc A' e K := by
  obtain ⟨⟨k1, k2, k3, k4⟩, k5⟩ := h
  have h3 := hX.2.2.1
  have hk := hX.dk
  have e6 : fI e 70 6 = fI c 70 6 := hx.i (by omega) (by rw [hk.2.1]; exact hy.1)
  have e7 : fI e 70 7 = fI c 70 7 := hx.i (by omega) (by rw [hk.2.1]; exact hy.2.1)
  refine ⟨⟨by rw [e7]; exact k1, k2, by rw [e6]; exact k3, by rw [e6]; exact k4⟩, fun i u hi => ?_⟩
  rw [e6]
  have hS := k5 i u hi
  have hp : pos (fI c 70 6) K.length i < 20 := by unfold pos; omega
  generalize pos (fI c 70 6) K.length i = p at hS hp ⊢
  obtain ⟨⟨p1, p2⟩, p3, p4, p5⟩ := hK u (List.mem_of_getElem? hi)
  obtain ⟨o1, o2, -⟩ := hX.2.1.1 p hp
  have hky : ky (75 + 5 * p) (kl c (75 + 5 * p)) = 9 := by rw [o2]; unfold ky; rw [if_neg (by omega)]
  have row : ∀ j, j < 4 → aI e (75 + 5 * p + (j + 1)) = aI c (75 + 5 * p + (j + 1)) ∧ aR e (75 + 5 * p + (j + 1)) = aR c (75 + 5 * p + (j + 1)) := fun j hj => by
    have hm := snR_mem hp hj
    rw [show 76 + 5 * p + j = 75 + 5 * p + (j + 1) by omega] at hm
    have hq : rk (75 + 5 * p + (j + 1)) (kl c (75 + 5 * p + (j + 1))) ∉ rs := by
      unfold rk
      rw [if_pos (by omega)]
      exact hr _ hm
    exact ⟨hx.ai (by omega) hq, hx.ar (by omega) hq⟩
  have lt : ∀ y, y ∈ fl u.1 → y < s.1 8 := fun y hy => (AT_mem u.1 p1 y hy).1.2
  obtain ⟨⟨q1, q2⟩, q3⟩ := hS
  refine ⟨⟨?_, ?_⟩, fun k x hx' => ?_⟩
  · rw [hx.i (by omega) (by rw [hky]; exact hy.2.2.1)]; exact q1
  · rw [hx.r (by omega) (by rw [hky]; exact hy.2.2.2), q2]
    exact (hE _ (lt _ p3)).symm
  · obtain ⟨g1, g2, g3, g4⟩ := q3 k x hx'
    have hxm := List.mem_of_getElem? hx'
    rw [(row 0 (by decide)).2, (row 1 (by decide)).2, (row 2 (by decide)).1, (row 3 (by decide)).1, g1, g2, hE x (lt x hxm)]
    refine ⟨rfl, (hE _ ?_).symm, g3, g4⟩
    by_cases w : x = hd u.1
    · rw [w, p4]; omega
    · exact lt _ ((AT_mem u.1 p1 x hxm).2.2.2 w).1
end
end
section
/-! take(), write(), unwrap() by the desk. -/
/-- an act that was done -/
def ACT (A : Int → Nat) (c : SC) (s : SM) (t : Term) (K : List Snap) (e : SC) (s' : SM) (t' : Term) : Prop := ∃ A', R1 A' e s' t' ∧ EXT A A' (s.1 8) ∧ CX acY acR c e ∧ RMk 10 100 c e ∧ KSc A' e (push K (t, s)) ∧ fI e 64 15 = 1 ∧ NWc (nxt c) e
section
variable {iv : List (Int × Int)} {L : Nat} {h0 : MH} {A A' : Int → Nat} {c e : SC} {s s' : SM} {t : Term} {d : Nat} {P : Int → Prop} {Q : Int → Int → Prop} {K : List Snap}
theorem snR_ac : ∀ a, a ∈ snR → a ∈ acR := fun a h => by unfold acR; simp [h]
theorem cxa_k (h : CX kys snR c e) : CX acY acR c e := h.up (by decide) snR_ac
theorem cxa_b (h : CX [(8, 4)] [] c e) : CX acY acR c e := h.up (by decide) (fun _ q => by cases q)
theorem cxa_l (h : CX lys [1103] c e) : CX acY acR c e := h.up (by decide) (fun _ q => by simp at q; subst q; simp [acR])
theorem cxa_t (h : CX tyY srs c e) : CX acY acR c e := h.up (by decide) (by decide)
theorem kp_push (hKP : ∀ u, u ∈ K → KP s u) (hT : AFT s t) : ∀ u, u ∈ push K (t, s) → KP s u := fun u hu => by
  unfold push at hu
  rcases List.mem_append.mp hu with q | q
  · refine hKP u ?_
    split at q
    · exact List.mem_of_mem_tail q
    · exact q
  · have := List.mem_singleton.mp q
    subst this
    exact KP_s hT.1 hT.2.1 hT.2.2
theorem mem_rpT {x y : Int} {u : Term} (h : SHT s t) (hx : x ∈ fl t) (hy : y ∈ fl (rpT x u t)) : y ∈ fl t ∨ y ∈ fl u := by
  obtain ⟨a, z, e1, e2, -⟩ := rpT_fl h.1 h.2.2.1 hx
  rw [e2] at hy
  rw [e1]
  simp only [List.mem_append] at hy ⊢
  rcases hy with q | q | q
  · exact Or.inl (Or.inl q)
  · exact Or.inr q
  · exact Or.inl (Or.inr (Or.inr q))
theorem KIs_e (h : KIs s) (h2 : s'.1 2 = s.1 2) (h4 : s'.2 4 = s.2 4 ∧ s'.2 5 = s.2 5 ∧ s'.2 6 = s.2 6 ∧ s'.2 7 = s.2 7) : KIs s' := by
  unfold KIs at h ⊢
  rw [h2, h4.1, h4.2.1, h4.2.2.1, h4.2.2.2]
  exact h
theorem KIs_q {ys fs : List Nat} (h : KIs s) (hx : eqx ys fs s s') (hy : 2 ∉ ys) (hf : 4 ∉ fs ∧ 5 ∉ fs ∧ 6 ∉ fs ∧ 7 ∉ fs) : KIs s' := KIs_e h (hx.1 2 hy) ⟨hx.2 4 hf.1, hx.2 5 hf.2.1, hx.2 6 hf.2.2.1, hx.2 7 hf.2.2.2⟩
/-- where a node hangs there is a place -/
theorem pl_in (h : SHT s t) {x : Int} (hx : x ∈ fl t) (hu : s.2 12 x ≠ -9) : 0 ≤ s.2 13 x ∧ s.2 13 x < pO (s.2 9 (s.2 12 x)) := by
  have hn : x ≠ hd t := fun q => hu (by rw [q]; exact h.2.2.2.2.2.2.1)
  exact ((AT_mem t h.1 x hx).2.2.2 hn).2.1
/-- ahead of an act: remembered -/
theorem rem_ok {F : SC → Prop} (h1 : R1 A c s t) (hT : AFT s t) (hKS : KSc A c K) (hF : ∀ e, OP A e s (fun x => x ∈ fl t) (fun b i => b ∈ fl t ∧ 0 ≤ i ∧ i < pO (s.2 9 b)) → KSc A e (push K (t, s)) → CX kys snR c e → RMk 0 0 c e → F e) : ck iv L h0 (d + 1) 219 [vr 70] c (qv F) := by
  have hO := op_of h1 hT.1
  obtain ⟨⟨hX, hN, hH, hL⟩, ⟨hc, h8⟩, hI, hJ⟩ := h1
  refine remember_ok hX hN hH hL hT.1 hc hKS (fun e hx hr hK => hF e (op_x hO hx (by decide) (by decide) (by decide) (by decide) ?_ ?_) hK hx hr)
  · exact ⟨by decide, by decide, by decide, by decide⟩
  · exact ⟨by decide, by decide, by decide, by decide⟩
theorem R1.cur (h1 : R1 A c s t) (hT : AFT s t) : (kl c 64 = 1 ∧ kl c 70 = 8 ∧ fR c 64 1 = 70 ∧ fR c 64 0 = 65 ∧ kl c 65 = 4) ∧ fR c 70 2 = A (s.1 16) ∧ kl c (A (s.1 16)) = 5 ∧ fI c (A (s.1 16)) 1 = s.2 9 (s.1 16) ∧ fI c (A (s.1 16)) 4 = s.2 10 (s.1 16) ∧ fI c 70 4 = s.1 8 ∧ fI c 70 3 = (fl t).length := by
  have hb := hT.1.m _ hT.2.2
  obtain ⟨⟨n1, n2, n3, n4, n5, n6, n7, n8⟩, n9, n10⟩ := h1.1.2.1.2 _ hb.1 hb.2
  exact ⟨h1.1.1.dk, h1.2.1.1, n1, n5, n8, h1.2.1.2, h1.1.2.2.2.1⟩
/-- what an act answers: a birth -/
theorem ans_b {y : Int} (h : R1 A e s' t) (hy : 0 ≤ y ∧ y < s'.1 8) : kl e (A y) = 5 ∧ fI e (A y) 0 = y := by
  obtain ⟨⟨n1, n2, n3, n4, n5, n6, n7, n8⟩, n9, n10⟩ := h.1.2.1.2 y hy.1 hy.2
  exact ⟨n1, n4⟩
theorem take_c {F : Int → SC → Prop} (h1 : R1 A c s t) (hT : AFT s t) (hK : KIs s) (hKS : KSc A c K) (hKP : ∀ u, u ∈ K → KP s u) (hD : 300 ≤ d) (H1 : ¬ tkOk s → F (tkA s) c) (H2 : tkOk s → ∀ e, ACT A c s t K e (tkU s) (tkT s t) → F (tkA s) e) : ck iv L h0 d 14 [vr 64] c (qi F) := by
  obtain ⟨d, rfl⟩ : ∃ k, d = k + 1 + 1 := ⟨d - 2, by omega⟩
  obtain ⟨⟨d1, d2, d3, d4, d5⟩, e1, e2, e3, e4, e5, e6⟩ := h1.cur hT
  have hS := hT.1
  have hB := hS.2.2.2.2.1
  have hcb := hS.m _ hT.2.2
  refine C14 ?_
  rw [d3, e1, e2, e3]
  refine ⟨d1, d2, rfl, fun hs => lacks_c h1.1.1 e5 hB (by omega) (fun hb => ⟨fun _ => ⟨d1, by rw [d3]; exact d2, ?_⟩, fun q => absurd rfl q⟩) (fun hb => ⟨fun q => by omega, fun _ => ?_⟩), fun hs => ?_⟩
  rotate_left
  · have := H1 (fun q => q.2 (by omega))
    unfold tkA at this
    rw [if_neg hs, if_pos (by omega)] at this
    exact this
  · have := H1 (fun q => q.1 hs)
    unfold tkA at this
    rw [if_pos hs] at this
    exact this
  · have hok : tkOk s := ⟨hs, by omega⟩
    have hA : tkA s = s.1 8 := by unfold tkA; rw [if_neg hs, if_neg (by omega)]
    have H3 := H2 hok
    rw [hA] at H3
    rw [d3]
    refine rem_ok h1 hT hKS (fun c1 hO1 hK1 hx1 hr1 => ?_)
    have hX1 := hO1.1.1
    obtain ⟨a1, a2, a3, -⟩ := hX1.dk
    have b8 : fI c1 70 4 = s.1 8 := hO1.2.2.1.2.1
    refine ⟨a1, by rw [a3]; exact a2, ?_⟩
    rw [a3]
    refine born_c hX1 (by omega) (by omega) (fun c2 hb2 => ?_)
    have hb2' : BORN c1 c2 0 (nvl 0 (-9)) (kvl 0 (-9)) := hb2
    obtain ⟨hO2, hnew, hE2⟩ := op_born hO1 hb2' (by omega) (by omega)
    obtain ⟨a1, a2, a3, -⟩ := hO2.1.1.dk
    refine ⟨a1, by rw [a3]; exact a2, ?_⟩
    rw [a3, ← hnew, ← hE2 (s.1 16) hcb.2]
    have he := bornU_e (s := s) (so := 0) (v := -9) (k := -9)
    refine repl_c hO2 hT.2.2 ⟨hB.1, by show s.1 8 < s.1 8 + 1; omega⟩ (fun q => ?_) (fun c3 hO3 hx3 hr3 => ?_)
    · rw [he.2 12 (by decide)] at q ⊢
      rw [he.2 13 (by decide)]
      have hu := pl_in hS hT.2.2 q
      have hum : s.2 12 (s.1 16) ∈ fl t := hS.up9 hT.2.2 (fun w => q (by rw [w]; exact hS.2.2.2.2.2.2.1))
      rw [((bornU_o (s := s) (so := 0) (v := -9) (k := -9)) _ (hS.m _ hum).2).1.1]
      exact hu
    obtain ⟨a1, a2, a3, -⟩ := hO3.1.1.dk
    refine ⟨a1, by rw [a3]; exact a2, ?_⟩
    rw [a3]
    have hre := replU_e (s := bornU s 0 (-9) (-9)) (o := s.1 16) (c := s.1 8)
    have hAft := take_aft hT hok
    refine changed_ok hO3 hAft (KIs_q (KIs_q hK he (by decide) (by decide)) hre (by decide) (by decide)) (fun x hx => ?_) (fun x i hx i0 i1 => ?_) (by omega) (fun e g1 g2 g3 g4 => ?_)
    · rcases mem_rpT hS hT.2.2 hx with q | q
      · exact Or.inl q
      · right
        have := List.mem_singleton.mp q
        rw [this]; omega
    · have e9 : (replU (bornU s 0 (-9) (-9)) (s.1 16) (s.1 8)).2 9 = (bornU s 0 (-9) (-9)).2 9 := hre.2 9 (by decide)
      have i1 : i < pO ((replU (bornU s 0 (-9) (-9)) (s.1 16) (s.1 8)).2 9 x) := i1
      rw [e9] at i1
      rcases mem_rpT hS hT.2.2 hx with q | q
      · left
        refine ⟨q, i0, ?_⟩
        rw [((bornU_o (s := s) (so := 0) (v := -9) (k := -9)) x (hS.m _ q).2).1.1] at i1
        exact i1
      · exfalso
        have hq := List.mem_singleton.mp q
        rw [hq, show (((s.1 8).toNat : Nat) : Int) = s.1 8 by omega, (bornU_at (s := s) (so := 0) (v := -9) (k := -9)).1] at i1
        have : pO 0 = 0 := by decide
        omega
    · obtain ⟨n1, n4⟩ := ans_b g1 (y := s.1 8) ⟨hB.1, by
        show s.1 8 < (replU (bornU s 0 (-9) (-9)) (s.1 16) (s.1 8)).1 8
        rw [hre.1 8 (by decide)]
        show s.1 8 < s.1 8 + 1
        omega⟩
      refine ⟨n1, ?_⟩
      rw [n4]
      have hl3 := h1.1.1.2.2.1
      refine H3 e ⟨A1 A (s.1 8) (nxt c1), g1, hE2, (cxa_k hx1).tr ((cxa_b hb2.1).tr ((cxa_l hx3).tr (cxa_t g2))), ?_, ?_, g4, ((((NWc.rf).x hl3 hx1 hr1 (by decide)).b hl3 hb2).x hl3 hx3 hr3 (by decide)).x hl3 g2 g3 (by decide)⟩
      · have r2 : RMk 2 16 c1 c2 := ⟨by have := hb2.2.1.1; omega, hb2.2.1.2⟩
        exact ((hr1.tr r2).tr (hr3.tr g3)).up (by decide) (by decide)
      · refine hK1.x hX1 hE2 hB.1 (kp_push hKP hT) ((cxa_b hb2.1).tr ((cxa_l hx3).tr (cxa_t g2)) |> fun _ => ((hb2.1.up (ys' := [(8, 4)] ++ (lys ++ tyY)) (rs' := [1103] ++ srs) (by decide) (fun _ q => by cases q)).tr ((hx3.up (by decide) (by decide)).tr (g2.up (by decide) (by decide))))) (by decide) (by decide)
theorem op_v {y v : Int} (h : OP A c s P Q) (hy : 0 ≤ y ∧ y < s.1 8) : OP A (uI c (A y) 4 v) (ua s 10 y v) P Q ∧ CX [(5, 4)] [] c (uI c (A y) 4 v) := by
  obtain ⟨⟨hX, hN, hI⟩, ⟨hL, hP⟩, ⟨ht, h8, ht0, ht8⟩, hKI, hB⟩ := h
  have hk := hX.dk
  obtain ⟨⟨m1, m2, m3, m4, m5, m6, m7, m8⟩, m9, m10⟩ := hN.2 y hy.1 hy.2
  have hx : CX [(5, 4)] [] c (uI c (A y) 4 v) := CX.rf.uI (fun _ => by rw [ky5 m10, m1]; decide)
  have n70 : A y ≠ 70 := fun q => by rw [q, hk.2.1] at m1; omega
  have o : ∀ b q, q ≠ 4 → fI (uI c (A y) 4 v) b q = fI c b q := fun b q hq => by rw [fI_uI, if_neg (fun w => hq w.1)]
  refine ⟨⟨⟨hX.x hx (by decide) (by decide), ⟨hN.1, fun b b0 b1 => ?_⟩, hI⟩, ⟨fun b hb => ?_, hP⟩, ⟨ht, ?_, ht0, ht8⟩, ?_, hB⟩, hx⟩
  · obtain ⟨⟨n1, n2, n3, n4, n5, n6, n7, n8⟩, n9, n10⟩ := hN.2 b b0 b1
    refine ⟨⟨n1, n2, n3, (o _ _ (by decide)).trans n4, (o _ _ (by decide)).trans n5, (o _ _ (by decide)).trans n6, n7, ?_⟩, n9, n10⟩
    rw [fI_uI]
    show _ = if (10 : Nat) = 10 ∧ b = y then v else s.2 10 b
    by_cases q : b = y
    · subst q; rw [if_pos ⟨rfl, rfl⟩, if_pos ⟨rfl, rfl⟩]
    · rw [if_neg (fun w => q (hN.inj hy w.2)), if_neg (fun w => q w.2)]; exact n8
  · rw [o _ _ (by decide)]
    exact hL b hb
  · rw [fI_uI, if_neg (by omega)]; exact h8
  · refine ⟨?_, hKI.2⟩
    have n65 : A y ≠ 65 := fun q => by rw [q, hk.2.2.2.2] at m1; omega
    rw [fI_uI, if_neg (by omega)]
    exact hKI.1
def fitb (so v : Int) : Prop := (so = 2 → v = 0 ∨ v = 1) ∧ ((so = 3 ∨ so = 8 ∨ so = 10) → 0 ≤ v ∧ v < 26)
theorem fits_c {so v : Int} {F : Int → SC → Prop} (H1 : fitb so v → F 1 c) (H2 : ¬ fitb so v → F 0 c) : ck iv L h0 (d + 1) 45 [vi so, vi v] c (qi F) := by
  unfold fitb at H1 H2
  refine C45 ⟨fun h2 => ⟨fun h1 => H1 (by omega), fun h1 => C43 ⟨fun q => absurd q h1, fun _ => ⟨fun q => absurd q h2, fun _ => ?_⟩⟩⟩, fun h2 => ⟨fun q => H1 (by omega), fun q => ⟨fun q1 => H2 (by omega), fun q1 => H1 (by omega)⟩⟩⟩
  have let26 : (so = 3 ∨ so = 8 ∨ so = 10) → ck iv L h0 d 40 [vi v] c (qi fun r4 s3 => (r4 = 0 → F 0 s3) ∧ (r4 ≠ 0 → F 1 s3)) := fun q => C40 ⟨fun w => ⟨fun _ => H2 (by omega), fun w => absurd rfl w⟩, fun w => ⟨fun w2 => ⟨fun _ => H2 (by omega), fun w => absurd rfl w⟩, fun w2 => ⟨fun w => absurd w (by decide), fun _ => H1 (by omega)⟩⟩⟩
  refine ⟨fun q3 => ⟨fun w => absurd w (by decide), fun _ => let26 (Or.inl q3)⟩, fun q3 => ⟨fun q8 => ⟨fun w => absurd w (by decide), fun _ => let26 (Or.inr (Or.inl q8))⟩, fun q8 => ⟨fun q10 => ⟨fun _ => H1 (by omega), fun w => absurd rfl w⟩, fun q10 => ⟨fun w => absurd w (by decide), fun _ => let26 (Or.inr (Or.inr q10))⟩⟩⟩⟩
theorem write_c {v : Int} {F : Int → SC → Prop} (h1 : R1 A c s t) (hT : AFT s t) (hK : KIs s) (hKS : KSc A c K) (hKP : ∀ u, u ∈ K → KP s u) (hD : 300 ≤ d) (H1 : ¬ wriOk s v → F (wriA s v) c) (H2 : wriOk s v → ∀ e, ACT A c s t K e (ua s 10 (s.1 16) v) t → F (wriA s v) e) : ck iv L h0 d 16 [vr 64, vi v] c (qi F) := by
  obtain ⟨d, rfl⟩ : ∃ k, d = k + 1 + 1 := ⟨d - 2, by omega⟩
  obtain ⟨⟨d1, d2, d3, d4, d5⟩, e1, e2, e3, e4, e5, e6⟩ := h1.cur hT
  have hS := hT.1
  have hB := hS.2.2.2.2.1
  have hcb := hS.m _ hT.2.2
  have go : (s.2 9 (s.1 16) = 1 ∨ s.2 9 (s.1 16) = 2 ∨ s.2 9 (s.1 16) = 3) → ck iv L h0 (d + 1) 45 [vi (s.2 9 (s.1 16)), vi v] c (qi fun r5 s4 => ((r5 ≠ 0 → (kl s4 64 = 1) ∧ (kl s4 (fR s4 64 1) = 8) ∧ ck iv L h0 (d + 1) 219 [vr (fR s4 64 1)] s4 (qv fun s8 => (kl s8 (A (s.1 16)) = 5) ∧ (kl s8 64 = 1) ∧ ck iv L h0 (d + 1) 52 [vr 64] (uI s8 (A (s.1 16)) 4 v) (qv fun s11 => F (fI s8 (A (s.1 16)) 4) s11))) ∧ (r5 = 0 → F (-1) s4))) := fun hs => by
    refine fits_c (fun hf => ⟨fun _ => ?_, fun q => absurd q (by decide)⟩) (fun hf => ⟨fun q => absurd rfl q, fun _ => ?_⟩)
    · have hok : wriOk s v := ⟨hs, fun q => by have := hf.1 q; omega, fun q => by have := hf.2 (Or.inl q); omega⟩
      have hA : wriA s v = s.2 10 (s.1 16) := by
        unfold wriA
        rw [if_pos hs, if_neg]
        intro q
        rcases q with q | q
        · exact q.2 (hok.2.1 q.1)
        · exact q.2 (hok.2.2 q.1)
      have H3 := H2 hok
      rw [hA] at H3
      rw [d3]
      refine ⟨d1, d2, rem_ok h1 hT hKS (fun c1 hO1 hK1 hx1 hr1 => ?_)⟩
      have hX1 := hO1.1.1
      obtain ⟨a1, a2, a3, -⟩ := hX1.dk
      obtain ⟨⟨n1, n2, n3, n4, n5, n6, n7, n8⟩, n9, n10⟩ := hO1.1.2.1.2 _ hcb.1 hcb.2
      obtain ⟨hO2, hx2⟩ := op_v (v := v) hO1 hcb
      refine ⟨n1, a1, ?_⟩
      rw [n8]
      have hcur : fR (uI c1 (A (s.1 16)) 4 v) 70 2 = A (s.1 16) := by
        rw [fR_uI, hx1.r (a := 70) (by have := h1.1.1.2.2.1; omega) (by rw [d2]; decide)]
        exact e1
      have hAft := wri_aft hT hok
      refine changed0_ok hO2 hcur hAft (KIs_q hK (eqx_ua (ys := []) (fs := [10]) eqx.rf (by decide)) (by decide) (by decide)) (fun x hx => hx) (fun x i hx i0 i1 => ⟨hx, i0, i1⟩) (by omega) (fun e g1 g2 g3 g4 => H3 e ⟨A, g1, EXT.rf, (cxa_k hx1).tr ((hx2.up (by decide) (fun _ q => by cases q)).tr (cxa_t g2)), ?_, ?_, g4, (((NWc.rf).x h1.1.1.2.2.1 hx1 hr1 (by decide)).x h1.1.1.2.2.1 hx2 (RMk.rf) (by decide)).x h1.1.1.2.2.1 g2 g3 (by decide)⟩)
      · have r2 : RMk 0 0 c1 (uI c1 (A (s.1 16)) 4 v) := RMk.rf
        exact ((hr1.tr r2).tr g3).up (by decide) (by decide)
      · exact hK1.x hX1 EXT.rf hB.1 (kp_push hKP hT) ((hx2.up (ys' := [(5, 4)] ++ tyY) (rs' := srs) (by decide) (fun _ q => by cases q)).tr (g2.up (by decide) (by decide))) (by decide) (by decide)
    · have := H1 (fun q => hf ⟨fun w => by have := q.2.1 w; omega, fun w => by have := q.2.2 (by omega); omega⟩)
      unfold fitb at hf
      unfold wriA at this
      rw [if_pos hs, if_pos (by omega)] at this
      exact this
  refine C16 ?_
  rw [d3, e1, e2, e3]
  refine ⟨d1, d2, rfl, fun q => go (Or.inl q), fun q1 => ⟨fun q => go (Or.inr (Or.inl q)), fun q2 => ⟨fun q => go (Or.inr (Or.inr q)), fun q3 => ?_⟩⟩⟩
  have := H1 (fun q => by have := q.1; omega)
  unfold wriA at this
  rw [if_neg (by omega)] at this
  exact this
/-- a finding -/
def refC (c : SC) (f : Int) : SC := uA (uI c 64 14 f) 198 f (aI c 198 f + 1)
theorem refuse_c {f : Int} {F : Int → SC → Prop} (hX : FIX c) (hf : 0 ≤ f ∧ f < 6) (hr : 0 ≤ aI c 198 f ∧ aI c 198 f ≤ 600) (hF : F (-3) (refC c f)) : ck iv L h0 d 47 [vr 64, vi f] c (qi F) := by
  have hk : kl c 64 = 1 ∧ fR c 64 11 = 198 ∧ kl c 198 = 100 ∧ le c 198 = 6 := by simp only [hX.1]; exact ⟨trivial, trivial, trivial, trivial⟩
  refine C47 ?_
  rw [hk.1, hk.2.1, hk.2.2.1, hk.2.2.2]
  exact ⟨rfl, rfl, hf, by omega, hF⟩
theorem hasPart_c {x i : Int} {F : Int → SC → Prop} (hN : ND A c s) (hx : 0 ≤ x ∧ x < s.1 8) (H1 : (0 ≤ i ∧ i < pO (s.2 9 x)) → F 1 c) (H2 : ¬ (0 ≤ i ∧ i < pO (s.2 9 x)) → F 0 c) : ck iv L h0 d 187 [vr (A x), vi i] c (qi F) := by
  obtain ⟨⟨n1, n2, n3, n4, n5, n6, n7, n8⟩, n9, n10⟩ := hN.2 x hx.1 hx.2
  refine C187 ?_
  rw [n1, n7, n2, n3]
  exact ⟨fun q => H2 (by omega), fun q => ⟨rfl, by omega, fun q2 => H2 (by omega), fun q2 => H1 (by omega)⟩⟩
theorem unwrap_c {i : Int} {F : Int → SC → Prop} (h1 : R1 A c s t) (hT : AFT s t) (hK : KIs s) (hKS : KSc A c K) (hKP : ∀ u, u ∈ K → KP s u) (hD : 300 ≤ d) (hr : 0 ≤ aI c 198 2 ∧ aI c 198 2 ≤ 600) (H0 : pO (s.2 9 (s.1 16)) = 0 → F (-4) c) (H1 : pO (s.2 9 (s.1 16)) ≠ 0 → ¬ uwOk s i → F (-3) (refC c 2)) (H2 : uwOk s i → ∀ e, ACT A c s t K e (uwU s i) (uwT s t i) → F (s.2 14 (3 * s.1 16 + i)) e) : ck iv L h0 d 15 [vr 64, vi i] c (qi F) := by
  obtain ⟨d, rfl⟩ : ∃ k, d = k + 1 + 1 := ⟨d - 2, by omega⟩
  obtain ⟨⟨d1, d2, d3, d4, d5⟩, e1, e2, e3, e4, e5, e6⟩ := h1.cur hT
  have hS := hT.1
  have hB := hS.2.2.2.2.1
  have hcb := hS.m _ hT.2.2
  obtain ⟨⟨n1, n2, n3, n4, n5, n6, n7, n8⟩, n9, n10⟩ := h1.1.2.1.2 _ hcb.1 hcb.2
  refine C15 ?_
  rw [d3, e1, e2, n7, n2, n3]
  refine ⟨d1, d2, rfl, by omega, fun hp => hasPart_c h1.1.2.1 hcb (fun hi => ⟨fun _ => ⟨d1, by rw [d3]; exact d2, ?_⟩, fun q => absurd q (by decide)⟩) (fun hi => ⟨fun q => absurd rfl q, fun _ => ⟨d1, refuse_c h1.1.1 (by omega) hr (H1 hp hi)⟩⟩), H0⟩
  have H3 := H2 hi
  rw [d3]
  refine rem_ok h1 hT hKS (fun c1 hO1 hK1 hx1 hr1 => ?_)
  have hX1 := hO1.1.1
  obtain ⟨a1, a2, a3, -⟩ := hX1.dk
  obtain ⟨⟨n1, n2, n3, n4, n5, n6, n7, n8⟩, n9, n10⟩ := hO1.1.2.1.2 _ hcb.1 hcb.2
  have hp14 := hO1.2.1.2 (s.1 16) i ⟨hT.2.2, hi⟩
  have hpb := (hO1.1.2.2.2 (s.1 16) i ⟨hT.2.2, hi⟩).2.2
  rw [n7, n2, n3, hp14, a3]
  refine ⟨n1, rfl, hi, a1, a2, repl_c hO1 hT.2.2 hpb (fun q => pl_in hS hT.2.2 q) (fun c2 hO2 hx2 hr2 => ?_)⟩
  obtain ⟨a1, a2, a3, -⟩ := hO2.1.1.dk
  rw [a3]
  have hre := replU_e (s := s) (o := s.1 16) (c := s.2 14 (3 * s.1 16 + i))
  refine ⟨a1, a2, changed_ok hO2 (unwrap_aft hT hi) (KIs_q hK hre (by decide) (by decide)) (fun x hx => ?_) (fun x j hx i0 i1 => ?_) (by omega) (fun e g1 g2 g3 g4 => ?_)⟩
  · have : x ∈ fl t := by
      obtain ⟨b1, b2, b3, b4, b5, b6, b7⟩ := sq_ok hS.1 hS.2.1 hS.2.2.1 hT.2.2
      rcases mem_rpT hS hT.2.2 hx with q | q
      · exact q
      · exact b4 x ((prt_ok (sq (s.1 16) t) b1 b5 hi.1 (by have := b2; unfold full at this; rw [this, b3]; exact hi.2)).2.2.2.1 x q)
    exact Or.inl this
  · have : x ∈ fl t := by
      obtain ⟨b1, b2, b3, b4, b5, b6, b7⟩ := sq_ok hS.1 hS.2.1 hS.2.2.1 hT.2.2
      rcases mem_rpT hS hT.2.2 hx with q | q
      · exact q
      · exact b4 x ((prt_ok (sq (s.1 16) t) b1 b5 hi.1 (by have := b2; unfold full at this; rw [this, b3]; exact hi.2)).2.2.2.1 x q)
    have i1 : j < pO ((replU s (s.1 16) (s.2 14 (3 * s.1 16 + i))).2 9 x) := i1
    rw [hre.2 9 (by decide)] at i1
    exact Or.inl ⟨this, i0, i1⟩
  · obtain ⟨n1, n4⟩ := ans_b g1 (y := s.2 14 (3 * s.1 16 + i)) (by
      show 0 ≤ s.2 14 (3 * s.1 16 + i) ∧ s.2 14 (3 * s.1 16 + i) < (replU s (s.1 16) (s.2 14 (3 * s.1 16 + i))).1 8
      rw [hre.1 8 (by decide)]
      exact hpb)
    refine ⟨n1, ?_⟩
    rw [n4]
    refine H3 e ⟨A, g1, EXT.rf, (cxa_k hx1).tr ((cxa_l hx2).tr (cxa_t g2)), ((hr1.tr hr2).tr g3).up (by decide) (by decide), ?_, g4, (((NWc.rf).x h1.1.1.2.2.1 hx1 hr1 (by decide)).x h1.1.1.2.2.1 hx2 hr2 (by decide)).x h1.1.1.2.2.1 g2 g3 (by decide)⟩
    exact hK1.x hX1 EXT.rf hB.1 (kp_push hKP hT) ((hx2.up (ys' := lys ++ tyY) (rs' := [1103] ++ srs) (by decide) (by decide)).tr (g2.up (by decide) (by decide))) (by decide) (by decide)
end
end
section
/-! put() by the desk. -/
section
variable {iv : List (Int × Int)} {L : Nat} {h0 : MH} {A A' : Int → Nat} {c e : SC} {s s' : SM} {t : Term} {d : Nat} {P : Int → Prop} {Q : Int → Int → Prop} {K : List Snap}
theorem hlU_9 {b i : Int} {s : SM} (y : Int) : (hlU b i s).2 9 y = if y = s.1 8 then 0 else s.2 9 y := by
  show (partU (bornU s 0 (-9) (-9)) b i (s.1 8)).2 9 y = _
  rw [(partU_e (s := bornU s 0 (-9) (-9)) (b := b) (i := i) (c := s.1 8)).2 9 (by decide)]
  show (if (9 : Nat) = 11 ∧ y = s.1 8 then kvl 0 (-9) else if (9 : Nat) = 10 ∧ y = s.1 8 then nvl 0 (-9) else if (9 : Nat) = 9 ∧ y = s.1 8 then (0 : Int) else s.2 9 y) = _
  simp
theorem hlsU_9 {b : Int} : ∀ (m : Nat) (i : Int) (s : SM) (y : Int), (hlsU b m i s).2 9 y = if s.1 8 ≤ y ∧ y < s.1 8 + m then 0 else s.2 9 y := by
  intro m
  induction m with
  | zero => intro i s y; rw [if_neg (by omega)]; rfl
  | succ m ih =>
    intro i s y
    show (hlsU b m (i + 1) (hlU b i s)).2 9 y = _
    rw [ih, hlU_9, hlU_8]
    by_cases q : s.1 8 + 1 ≤ y ∧ y < s.1 8 + 1 + m
    · rw [if_pos q, if_pos (by omega)]
    · rw [if_neg q]
      by_cases q2 : y = s.1 8
      · rw [if_pos q2, if_pos (by omega)]
      · rw [if_neg q2, if_neg (by omega)]
def pyY : List (Nat × Nat) := (8, 4) :: lys
theorem put_loop_c {b n : Int} {lo : Nat} {F : Int → SC → Prop} (hlo : 353 ≤ lo) : ∀ (m : Nat) (i : Int) (A : Int → Nat) (c : SC) (s : SM) (P : Int → Prop) (Q : Int → Int → Prop), OP A c s P Q → i + m = n → 0 ≤ i → n = pO (s.2 9 b) → (0 ≤ b ∧ b < s.1 8) → s.1 8 + m ≤ 3000 → NWc lo c →
    (∀ (A' : Int → Nat) (e : SC), OP A' e (hlsU b m i s) (fun x => P x ∨ (s.1 8 ≤ x ∧ x < s.1 8 + m)) (fun x j => Q x j ∨ (x = b ∧ i ≤ j ∧ j < i + m)) → EXT A A' (s.1 8) → CX pyY [1103] c e → RMk (2 * m) (16 * m) c e → NWc lo e → ck iv L h0 (d + 1) 52 [vr 64] (uR e 70 2 (A' b)) (qv fun s3 => (kl s3 (A' b) = 5) ∧ F (fI s3 (A' b) 0) s3)) → wk iv L h0 (d + 2) 13 207 [lr 64, ln, ln, ln, ln, ln, li n, lr (A b), li i] [] c (qi F) := by
  intro m
  induction m with
  | zero =>
    intro i A c s P Q hO hin hi hn hb hB hW hF
    obtain ⟨a1, a2, a3, -⟩ := hO.1.1.dk
    refine C13_207 ⟨fun _ => ?_, fun q => by omega⟩
    rw [a3]
    refine ⟨a1, a2, hF A c ?_ EXT.rf CX.rf RMk.rf hW⟩
    obtain ⟨⟨hX, hN, hI⟩, ⟨hL, hP⟩, r⟩ := hO
    exact ⟨⟨hX, hN, ⟨fun x hx => hI.1 x (hx.resolve_right (by omega)), fun x j hx => hI.2 x j (hx.resolve_right (by omega))⟩⟩, ⟨fun x hx => hL x (hx.resolve_right (by omega)), fun x j hx => hP x j (hx.resolve_right (by omega))⟩, r⟩
  | succ m ih =>
    intro i A c s P Q hO hin hi hn hb hB hW hF
    obtain ⟨a1, a2, a3, -⟩ := hO.1.1.dk
    have b8 : fI c 70 4 = s.1 8 := hO.2.2.1.2.1
    have hB0 := hO.2.2.2.2.1
    have hpn := pO_in (s.2 9 b)
    refine C13_207 ⟨fun q => by omega, fun _ => ?_⟩
    rw [a3]
    refine ⟨a1, a2, born_c hO.1.1 (by omega) (by omega) (fun c2 hb2 => ?_)⟩
    have hb2' : BORN c c2 0 (nvl 0 (-9)) (kvl 0 (-9)) := hb2
    obtain ⟨hO2, hnew, hE2⟩ := op_born hO hb2' (by omega) (by omega)
    have hk5 := hO2.1.2.1.2 b hb.1 (by show b < s.1 8 + 1; omega)
    rw [hE2 b hb.2] at hk5
    refine ⟨hk5.1.1, ?_⟩
    rw [← hnew, ← hE2 b hb.2]
    have e9 : (bornU s 0 (-9) (-9)).2 9 b = s.2 9 b := ((bornU_o (s := s) (so := 0) (v := -9) (k := -9)) b hb.2).1.1
    refine hang_c hO2 (y := s.1 8) ⟨hb.1, by show b < s.1 8 + 1; omega⟩ ⟨hB0, by show s.1 8 < s.1 8 + 1; omega⟩ ⟨hi, by rw [e9]; omega⟩ (fun c3 hO3 hx3 hr3 => ⟨by omega, ?_⟩)
    refine ih (i + 1) _ c3 (hlU b i s) _ _ hO3 (by omega) (by omega) ?_ ⟨hb.1, by rw [hlU_8]; omega⟩ (by rw [hlU_8]; omega) ((hW.b hlo hb2).x hlo hx3 hr3 (by decide)) (fun A' e hOe hEe hxe hre hWe => ?_)
    · rw [hlU_9, if_neg (by omega)]; exact hn
    · have hEA : EXT A A' (s.1 8) := hE2.tr hEe (by rw [hlU_8]; omega)
      refine hF A' e ?_ hEA ?_ ?_ hWe
      · obtain ⟨⟨hX, hN, hI⟩, ⟨hL, hP⟩, r⟩ := hOe
        rw [hlU_8] at hI hL
        exact ⟨⟨hX, hN, ⟨fun x hx => hI.1 x (by
          rcases hx with hx | hx
          · exact Or.inl (Or.inl hx)
          · by_cases q : x = s.1 8
            · exact Or.inl (Or.inr q)
            · exact Or.inr (by omega)), fun x j hx => hI.2 x j (by
          rcases hx with hx | hx
          · exact Or.inl (Or.inl hx)
          · by_cases q : j = i
            · exact Or.inl (Or.inr ⟨hx.1, q⟩)
            · exact Or.inr ⟨hx.1, by omega, by omega⟩)⟩⟩, ⟨fun x hx => hL x (by
          rcases hx with hx | hx
          · exact Or.inl (Or.inl hx)
          · by_cases q : x = s.1 8
            · exact Or.inl (Or.inr q)
            · exact Or.inr (by omega)), fun x j hx => hP x j (by
          rcases hx with hx | hx
          · exact Or.inl (Or.inl hx)
          · by_cases q : j = i
            · exact Or.inl (Or.inr ⟨hx.1, q⟩)
            · exact Or.inr ⟨hx.1, by omega, by omega⟩)⟩, r⟩
      · exact (hb2.1.up (ys' := pyY) (rs' := [1103]) (by decide) (fun _ q => by cases q)).tr ((hx3.up (by decide) (by decide)).tr hxe)
      · have r2 : RMk 2 16 c c2 := ⟨by have := hb2.2.1.1; omega, hb2.2.1.2⟩
        exact ((r2.tr hr3).tr hre).up (by omega) (by omega)
/-- how many of a node's parts there are -/
theorem op_mo {P' : Int → Prop} {Q' : Int → Int → Prop} (h : OP A c s P Q) (hP : ∀ x, P' x → P x) (hQ : ∀ x i, Q' x i → Q x i) : OP A c s P' Q' := by
  obtain ⟨⟨hX, hN, hI⟩, ⟨hL, hPT⟩, r⟩ := h
  exact ⟨⟨hX, hN, ⟨fun x hx => hI.1 x (hP x hx), fun x j hx => hI.2 x j (hQ x j hx)⟩⟩, ⟨fun x hx => hL x (hP x hx), fun x j hx => hPT x j (hQ x j hx)⟩, r⟩
theorem put_mem {so v k : Int} (hS : SHT s t) (hc : s.1 16 ∈ fl t) (hg : putOk s t so v k) {x : Int} (hx : x ∈ fl (putT s t so)) : x ∈ fl t ∨ x = s.1 8 ∨ (s.1 8 + 1 ≤ x ∧ x < s.1 8 + 1 + (if s.2 9 (s.1 16) = 0 then pO so else pO so - 1)) := by
  have hB := hS.2.2.2.2.1
  have hp := pO_in so
  obtain ⟨g0, g5, -⟩ := hg
  unfold putT at hx
  rcases mem_rpT hS hc hx with q | q
  · exact Or.inl q
  · by_cases e : s.2 9 (s.1 16) = 0
    · rw [if_pos e] at q ⊢
      rcases adds_mem q with w | w
      · have := List.mem_singleton.mp w
        right; left; omega
      · right; right; omega
    · rw [if_neg e] at q ⊢
      rcases adds_mem q with w | w
      · rcases List.mem_append.mp w with w | w
        · have := List.mem_singleton.mp w
          right; left; omega
        · obtain ⟨b1, b2, b3, b4, b5, b6, b7⟩ := sq_ok hS.1 hS.2.1 hS.2.2.1 hc
          exact Or.inl (b4 x w)
      · right; right; omega
/-- the new node has been put; holes follow -/
theorem put_end {so v k r : Int} {F : Int → SC → Prop} (h1 : R1 A c s t) (hT : AFT s t) (hK : KIs s) (hKP : ∀ u, u ∈ K → KP s u) (hg : putOk s t so v k) (hD : 300 ≤ d) (H2 : ∀ e, ACT A c s t K e (putU s so v k) (putT s t so) → F (s.1 8) e)
    {c1 c2 : SC} (hO1 : OP A c1 s (fun x => x ∈ fl t) (fun b i => b ∈ fl t ∧ 0 ≤ i ∧ i < pO (s.2 9 b))) (hK1 : KSc A c1 (push K (t, s))) (hx1 : CX kys snR c c1) (hr1 : RMk 0 0 c c1) (hb2 : BORN c1 c2 so (nvl so v) (kvl so k)) :
    ck iv L h0 (d + 1) 208 [vr 70, vr (A (s.1 16)), vr (nxt c1)] c2 (qv fun s14 => (s.2 9 (s.1 16) ≠ 0 → (kl s14 (nxt c1) = 5) ∧ ck iv L h0 (d + 1) 188 [vr (nxt c1), vi 0, vr (A (s.1 16))] s14 (qv fun s16 => wk iv L h0 (d + 2) 13 207 [lr 64, ln, ln, ln, ln, ln, li (pO so), lr (nxt c1), li 1] [] s16 (qi F))) ∧ (s.2 9 (s.1 16) = 0 → wk iv L h0 (d + 2) 13 207 [lr 64, ln, ln, ln, ln, ln, li (pO so), lr (nxt c1), li 0] [] s14 (qi F))) := by
  have hS := hT.1
  have hB := hS.2.2.2.2.1
  have hcb := hS.m _ hT.2.2
  obtain ⟨⟨g1, g2, g3, g4⟩, g5, g6, g7⟩ := id hg
  have hp := pO_in so
  have hB3 : s.1 8 < 3000 ∧ s.1 8 + (if s.2 9 (s.1 16) = 0 then 1 + pO so else pO so) ≤ 3000 ∧ (s.2 9 (s.1 16) ≠ 0 → 1 ≤ pO so) := by
    unfold pfr at g7
    by_cases e : s.2 9 (s.1 16) = 0
    · rw [if_pos e] at g7 ⊢; omega
    · rw [if_neg e] at g7 ⊢; omega
  have hX1 := hO1.1.1
  have hl3 := h1.1.1.2.2.1
  obtain ⟨hO2, hnew, hE2⟩ := op_born hO1 hb2 hB3.1 (by omega)
  have he := bornU_e (s := s) (so := so) (v := v) (k := k)
  have hold := bornU_o (s := s) (so := so) (v := v) (k := k)
  have hat := bornU_at (s := s) (so := so) (v := v) (k := k)
  have hre := replU_e (s := bornU s so v k) (o := s.1 16) (c := s.1 8)
  rw [← hnew, ← hE2 (s.1 16) hcb.2]
  have b8 : (bornU s so v k).1 8 = s.1 8 + 1 := rfl
  have r8 : (replU (bornU s so v k) (s.1 16) (s.1 8)).1 8 = s.1 8 + 1 := (hre.1 8 (by decide)).trans b8
  have r9 : (replU (bornU s so v k) (s.1 16) (s.1 8)).2 9 (s.1 8) = so := by rw [hre.2 9 (by decide)]; exact hat.1
  have r9o : ∀ x, x < s.1 8 → (replU (bornU s so v k) (s.1 16) (s.1 8)).2 9 x = s.2 9 x := fun x hx => by rw [hre.2 9 (by decide)]; exact (hold x hx).1.1
  refine repl_c hO2 hT.2.2 ⟨hB.1, by rw [b8]; omega⟩ (fun q => ?_) (fun c3 hO3 hx3 hr3 => ?_)
  · rw [he.2 12 (by decide)] at q ⊢
    rw [he.2 13 (by decide)]
    have hu := pl_in hS hT.2.2 q
    have hum : s.2 12 (s.1 16) ∈ fl t := hS.up9 hT.2.2 (fun w => q (by rw [w]; exact hS.2.2.2.2.2.2.1))
    rw [(hold _ (hS.m _ hum).2).1.1]
    exact hu
  have hAft := put_aft hT hg
  -- the end, for either way
  have fin : ∀ (m : Nat) (i : Int) (A3 : Int → Nat) (c4 : SC) (s4 : SM) (P4 : Int → Prop) (Q4 : Int → Int → Prop), OP A3 c4 s4 P4 Q4 → EXT A A3 (s.1 8) → putU s so v k = us (hlsU (s.1 8) m i s4) 16 (s.1 8) → s4.1 8 = s.1 8 + 1 → (∀ x, x < s.1 8 → s4.2 9 x = s.2 9 x) → s4.2 9 (s.1 8) = so → (s4.1 2 = s.1 2 ∧ s4.2 4 = s.2 4 ∧ s4.2 5 = s.2 5 ∧ s4.2 6 = s.2 6 ∧ s4.2 7 = s.2 7) → (∀ x, x ∈ fl t ∨ x = s.1 8 → P4 x) → (∀ x j, x ∈ fl t → 0 ≤ j → j < pO (s.2 9 x) → Q4 x j) → (∀ j, 0 ≤ j → j < i → Q4 (s.1 8) j) → i + m = pO so → 0 ≤ i → (m : Int) = (if s.2 9 (s.1 16) = 0 then pO so else pO so - 1) → CX (pyY ++ kys) (1103 :: snR) c c4 → CX pyY [1103] c1 c4 → RMk 2 16 c c4 → NWc (nxt c) c4 → wk iv L h0 (d + 2) 13 207 [lr 64, ln, ln, ln, ln, ln, li (pO so), lr (A3 (s.1 8)), li i] [] c4 (qi F) := by
    intro m i A3 c4 s4 P4 Q4 hO4 hE4 hU h48 h49 h49n h4k hP4 hQ4 hQn him hi0 hm hx4 hx14 hr4 hW4
    have hm4 : s4.1 8 + m ≤ 3000 := by
      rw [h48, hm]
      by_cases w : s.2 9 (s.1 16) = 0
      · rw [if_pos w] at hB3 ⊢; omega
      · rw [if_neg w] at hB3 ⊢; omega
    have hm3 : (m : Int) ≤ 3 := by omega
    refine put_loop_c hl3 m i A3 c4 s4 P4 Q4 hO4 him hi0 (by rw [h49n]) ⟨hB.1, by omega⟩ hm4 hW4 (fun A' e hOe hEe hxe hre' hWe => ?_)
    rw [hU] at hAft
    have hle := hlsU_e (s.1 8) m i s4
    refine changed_ok hOe hAft (KIs_e hK ?_ ⟨?_, ?_, ?_, ?_⟩) (fun x hx => ?_) (fun x j hx i0 i1 => ?_) (by omega) (fun f g1 g2 g3 g4 => ?_)
    · rw [hle.1.1 2 (by decide)]; exact h4k.1
    · rw [hle.1.2 4 (by decide)]; exact h4k.2.1
    · rw [hle.1.2 5 (by decide)]; exact h4k.2.2.1
    · rw [hle.1.2 6 (by decide)]; exact h4k.2.2.2.1
    · rw [hle.1.2 7 (by decide)]; exact h4k.2.2.2.2
    · rcases put_mem hS hT.2.2 hg hx with q | q | q
      · exact Or.inl (hP4 x (Or.inl q))
      · exact Or.inl (hP4 x (Or.inr q))
      · right; rw [h48, hm]; omega
    · have i1 : j < pO ((hlsU (s.1 8) m i s4).2 9 x) := i1
      rw [hlsU_9] at i1
      rcases put_mem hS hT.2.2 hg hx with q | q | q
      · have := hS.m _ q
        rw [if_neg (by omega), h49 x this.2] at i1
        exact Or.inl (hQ4 x j q i0 i1)
      · subst q
        rw [if_neg (by omega), h49n] at i1
        by_cases w : j < i
        · exact Or.inl (hQn j i0 w)
        · exact Or.inr ⟨rfl, by omega, by omega⟩
      · exfalso
        rw [if_pos (by rw [h48, hm]; omega)] at i1
        have : pO 0 = 0 := by decide
        omega
    · have hEA : EXT A A' (s.1 8) := hE4.tr hEe (by omega)
      obtain ⟨n1, n4⟩ := ans_b g1 (y := s.1 8) ⟨hB.1, by
        show s.1 8 < (hlsU (s.1 8) m i s4).1 8
        rw [hle.2.1]
        omega⟩
      refine ⟨n1, ?_⟩
      rw [n4]
      refine H2 f ⟨A', by rw [hU]; exact g1, hEA, ?_, ?_, ?_, g4, hWe.x hl3 g2 g3 (by decide)⟩
      · refine (hx4.up ?_ ?_).tr ((hxe.up ?_ ?_).tr (cxa_t g2))
        · decide
        · intro y hy
          rcases List.mem_cons.mp hy with rfl | hy
          · simp [acR]
          · exact snR_ac y hy
        · decide
        · intro y hy
          simp at hy; subst hy; simp [acR]
      · exact ((hr4.tr hre').tr g3).up (by omega) (by omega)
      · exact hK1.x hX1 hEA hB.1 (kp_push hKP hT) ((hx14.up (ys' := pyY ++ tyY) (rs' := [1103] ++ srs) (by decide) (by decide)).tr ((hxe.up (by decide) (by decide)).tr (g2.up (by decide) (by decide)))) (by decide) (by decide)
  have hxc2 : CX (pyY ++ kys) (1103 :: snR) c c3 := (hx1.up (by decide) (fun y hy => List.mem_cons_of_mem _ hy)).tr ((hb2.1.up (by decide) (fun _ q => by cases q)).tr (hx3.up (by decide) (fun y hy => by simp at hy; subst hy; simp)))
  have hx13 : CX pyY [1103] c1 c3 := (hb2.1.up (by decide) (fun _ q => by cases q)).tr (hx3.up (by decide) (by decide))
  have hW3 : NWc (nxt c) c3 := (((NWc.rf).x hl3 hx1 hr1 (by decide)).b hl3 hb2).x hl3 hx3 hr3 (by decide)
  have hr3' : RMk 2 16 c c3 := by
    have r2 : RMk 2 16 c1 c2 := ⟨by have := hb2.2.1.1; omega, hb2.2.1.2⟩
    exact ((hr1.tr r2).tr hr3).up (by decide) (by decide)
  have kk : ∀ {w : SM}, (w.1 2 = (bornU s so v k).1 2 ∧ w.2 4 = (bornU s so v k).2 4 ∧ w.2 5 = (bornU s so v k).2 5 ∧ w.2 6 = (bornU s so v k).2 6 ∧ w.2 7 = (bornU s so v k).2 7) → (w.1 2 = s.1 2 ∧ w.2 4 = s.2 4 ∧ w.2 5 = s.2 5 ∧ w.2 6 = s.2 6 ∧ w.2 7 = s.2 7) := fun h => ⟨h.1.trans rfl, h.2.1.trans (he.2 4 (by decide)), h.2.2.1.trans (he.2 5 (by decide)), h.2.2.2.1.trans (he.2 6 (by decide)), h.2.2.2.2.trans (he.2 7 (by decide))⟩
  refine ⟨fun hs => ?_, fun hs => ?_⟩
  · have hk5 := (hO3.1.2.1.2 (s.1 8) hB.1 (by rw [r8]; omega)).1.1
    refine ⟨hk5, hang_c hO3 ⟨hB.1, by rw [r8]; omega⟩ ⟨hcb.1, by rw [r8]; omega⟩ ⟨by omega, by rw [r9]; have := hB3.2.2 hs; omega⟩ (fun c4 hO4 hx4 hr4 => ?_)⟩
    have hpe := partU_e (s := replU (bornU s so v k) (s.1 16) (s.1 8)) (b := s.1 8) (i := 0) (c := s.1 16)
    refine fin (pO so - 1).toNat 1 _ c4 _ _ _ hO4 hE2 ?_ ?_ (fun x hx => ?_) ?_ (kk ⟨?_, ?_, ?_, ?_, ?_⟩) (fun x hx => ?_) (fun x j hx j0 j1 => Or.inl (Or.inl ⟨hx, j0, j1⟩)) (fun j j0 j1 => Or.inr ⟨rfl, by omega⟩) (by have := hB3.2.2 hs; omega) (by omega) (by rw [if_neg hs]; have := hB3.2.2 hs; omega) (hxc2.tr (hx4.up (by decide) (fun y hy => by simp at hy; subst hy; simp))) (hx13.tr (hx4.up (by decide) (by decide))) ((hr3'.tr hr4).up (by decide) (by decide)) (hW3.x hl3 hx4 hr4 (by decide))
    · unfold putU; rw [if_neg hs]
    · rw [hpe.1 8 (by simp)]; exact r8
    · rw [hpe.2 9 (by decide)]; exact r9o x hx
    · rw [hpe.2 9 (by decide)]; exact r9
    · rw [hpe.1 2 (by simp), hre.1 2 (by decide)]
    · rw [hpe.2 4 (by decide), hre.2 4 (by decide)]
    · rw [hpe.2 5 (by decide), hre.2 5 (by decide)]
    · rw [hpe.2 6 (by decide), hre.2 6 (by decide)]
    · rw [hpe.2 7 (by decide), hre.2 7 (by decide)]
    · rcases hx with q | q
      · exact Or.inl (Or.inl q)
      · exact Or.inl (Or.inr q)
  · refine fin (pO so).toNat 0 _ c3 _ _ _ hO3 hE2 ?_ r8 r9o r9 (kk ⟨?_, ?_, ?_, ?_, ?_⟩) (fun x hx => hx) (fun x j hx j0 j1 => Or.inl ⟨hx, j0, j1⟩) (fun j j0 j1 => by omega) (by omega) (by omega) (by rw [if_pos hs]; omega) hxc2 hx13 hr3' hW3
    · unfold putU; rw [if_pos hs]
    · rw [hre.1 2 (by decide)]
    · rw [hre.2 4 (by decide)]
    · rw [hre.2 5 (by decide)]
    · rw [hre.2 6 (by decide)]
    · rw [hre.2 7 (by decide)]
end
end
section
/-! put() by the desk, whole. Printed in part by wip/gen2/gen_put.py, gen_put2.py. -/
def PMID (iv : List (Int × Int)) (L : Nat) (h0 : MH) (d : Nat) (c : SC) (so v k : Int) (F : Int → SC → Prop) : Prop := (kl c 64 = 1) ∧ (kl c (fR c 64 1) = 8) ∧ (kl c (fR c (fR c 64 1) 2) = 5) ∧ ((fI c (fR c (fR c 64 1) 2) 1 ≠ 0 → (0 ≤ so ∧ so < 16) ∧ ((so = 0 → F (-4) c) ∧ (so ≠ 0 → ((pO so ≠ 0 → (-2147483648 ≤ (fI c (fR c 64 1) 3) + (pO so) ∧ (fI c (fR c 64 1) 3) + (pO so) ≤ 2147483647) ∧ ((60 < (fI c (fR c 64 1) 3) + (pO so) → F (-2) c) ∧ ((fI c (fR c 64 1) 3) + (pO so) ≤ 60 → ck iv L h0 d 205 [vr (fR c 64 1), vi (pO so)] c (qi fun r11 s10 => ((r11 = 0 → wk iv L h0 (d + 1) 13 128 [lr 64, li so, li v, li k, lr (fR c (fR c 64 1) 2), li 0, li (pO so)] [] s10 (qi F)) ∧ (r11 ≠ 0 → F (-2) s10)))))) ∧ (pO so = 0 → F (-4) c))))) ∧ (fI c (fR c (fR c 64 1) 2) 1 = 0 → (0 ≤ so ∧ so < 16) ∧ ((so = 0 → F (-4) c) ∧ (so ≠ 0 → ((pO so ≠ 0 → (-2147483648 ≤ (fI c (fR c 64 1) 3) + (pO so) ∧ (fI c (fR c 64 1) 3) + (pO so) ≤ 2147483647) ∧ ((60 < (fI c (fR c 64 1) 3) + (pO so) → F (-2) c) ∧ ((fI c (fR c 64 1) 3) + (pO so) ≤ 60 → (-2147483648 ≤ (pO so) + 1 ∧ (pO so) + 1 ≤ 2147483647) ∧ ck iv L h0 d 205 [vr (fR c 64 1), vi ((pO so) + 1)] c (qi fun r16 s15 => ((r16 = 0 → wk iv L h0 (d + 1) 13 128 [lr 64, li so, li v, li k, lr (fR c (fR c 64 1) 2), li 1, li (pO so)] [] s15 (qi F)) ∧ (r16 ≠ 0 → F (-2) s15)))))) ∧ (pO so = 0 → (-2147483648 ≤ (fI c (fR c 64 1) 3) + (pO so) ∧ (fI c (fR c 64 1) 3) + (pO so) ≤ 2147483647) ∧ ((60 < (fI c (fR c 64 1) 3) + (pO so) → F (-2) c) ∧ ((fI c (fR c 64 1) 3) + (pO so) ≤ 60 → (-2147483648 ≤ (pO so) + 1 ∧ (pO so) + 1 ≤ 2147483647) ∧ ck iv L h0 d 205 [vr (fR c 64 1), vi ((pO so) + 1)] c (qi fun r20 s19 => ((r20 = 0 → wk iv L h0 (d + 1) 13 128 [lr 64, li so, li v, li k, lr (fR c (fR c 64 1) 2), li 1, li (pO so)] [] s19 (qi F)) ∧ (r20 ≠ 0 → F (-2) s19)))))))))))
section
variable {iv : List (Int × Int)} {L : Nat} {h0 : MH} {A A' : Int → Nat} {c e : SC} {s s' : SM} {t : Term} {d : Nat} {P : Int → Prop} {Q : Int → Int → Prop} {K : List Snap}
theorem bn_c {so : Int} {F : Int → SC → Prop} (H1 : (so = 1 ∨ so = 2 ∨ so = 3 ∨ so = 8 ∨ so = 10) → F 1 c) (H2 : ¬ (so = 1 ∨ so = 2 ∨ so = 3 ∨ so = 8 ∨ so = 10) → F 0 c) : ck iv L h0 d 43 [vi so] c (qi F) :=
  C43 ⟨fun q => H1 (by omega), fun q => ⟨fun q2 => H1 (by omega), fun q2 => ⟨fun q3 => H1 (by omega), fun q3 => ⟨fun q8 => H1 (by omega), fun q8 => ⟨fun q10 => H2 (by omega), fun q10 => H1 (by omega)⟩⟩⟩⟩⟩
theorem bk_c {so : Int} {F : Int → SC → Prop} (H1 : (so = 8 ∨ so = 15) → F 1 c) (H2 : ¬ (so = 8 ∨ so = 15) → F 0 c) : ck iv L h0 d 44 [vi so] c (qi F) :=
  C44 ⟨fun q => H1 (by omega), fun q => ⟨fun q2 => H2 (by omega), fun q2 => H1 (by omega)⟩⟩
theorem has_c {k : Int} {F : Int → SC → Prop} (hX : FIX c) (hI : KIc c s) (H1 : (0 ≤ k ∧ k < s.1 2) → F 1 c) (H2 : ¬ (0 ≤ k ∧ k < s.1 2) → F 0 c) : ck iv L h0 d 176 [vr 65, vi k] c (qi F) := by
  refine C176 ⟨fun q => H2 (by omega), fun q => ⟨hX.dk.2.2.2.2, ?_⟩⟩
  rw [hI.1]
  exact ⟨fun q2 => H2 (by omega), fun q2 => H1 (by omega)⟩
theorem put_128 {so v k : Int} {F : Int → SC → Prop} (h1 : R1 A c s t) (hT : AFT s t) (hK : KIs s) (hKS : KSc A c K) (hKP : ∀ u, u ∈ K → KP s u) (hD : 300 ≤ d) (hg : putOk s t so v k) (H2 : ∀ e, ACT A c s t K e (putU s so v k) (putT s t so) → F (s.1 8) e) : wk iv L h0 (d + 2) 13 128 [lr 64, li so, li v, li k, lr (A (s.1 16)), li (if s.2 9 (s.1 16) = 0 then 1 else 0), li (pO so)] [] c (qi F) := by
  obtain ⟨⟨d1, d2, d3, d4, d5⟩, e1, e2, e3, e4, e5, e6⟩ := h1.cur hT
  have hB := hT.1.2.2.2.2.1
  have hpo := pO_in so
  have hB3 : s.1 8 < 3000 := by
    obtain ⟨g0, g5, g6, g7⟩ := hg
    unfold pfr at g7
    split at g7 <;> omega
  refine C13_128 ?_
  rw [d3]
  refine ⟨d1, d2, rem_ok h1 hT hKS (fun c1 hO1 hK1 hx1 hr1 => ?_)⟩
  have hX1 := hO1.1.1
  obtain ⟨a1, a2, a3, -⟩ := hX1.dk
  have b8 : fI c1 70 4 = s.1 8 := hO1.2.2.1.2.1
  have go : ∀ (v' k' : Int), v' = nvl so v → k' = kvl so k → (kl c1 (fR c1 64 1) = 8) ∧ ck iv L h0 (d + 1) 204 [vr (fR c1 64 1), vi so, vi v', vi k'] c1 (qa fun r11 s10 => (kl s10 64 = 1) ∧ (kl s10 (fR s10 64 1) = 8) ∧ ck iv L h0 (d + 1) 208 [vr (fR s10 64 1), vr (A (s.1 16)), vr r11] s10 (qv fun s14 => (((if s.2 9 (s.1 16) = 0 then (1 : Int) else 0) ≠ 0 → (((if s.2 9 (s.1 16) = 0 then (1 : Int) else 0) = 0 → wk iv L h0 (d + 2) 13 207 [lr 64, ln, ln, ln, ln, ln, li (pO so), lr r11, li 1] [] s14 (qi F)) ∧ ((if s.2 9 (s.1 16) = 0 then (1 : Int) else 0) ≠ 0 → wk iv L h0 (d + 2) 13 207 [lr 64, ln, ln, ln, ln, ln, li (pO so), lr r11, li 0] [] s14 (qi F)))) ∧ ((if s.2 9 (s.1 16) = 0 then (1 : Int) else 0) = 0 → (kl s14 r11 = 5) ∧ ck iv L h0 (d + 1) 188 [vr r11, vi 0, vr (A (s.1 16))] s14 (qv fun s16 => (((if s.2 9 (s.1 16) = 0 then (1 : Int) else 0) = 0 → wk iv L h0 (d + 2) 13 207 [lr 64, ln, ln, ln, ln, ln, li (pO so), lr r11, li 1] [] s16 (qi F)) ∧ ((if s.2 9 (s.1 16) = 0 then (1 : Int) else 0) ≠ 0 → wk iv L h0 (d + 2) 13 207 [lr 64, ln, ln, ln, ln, ln, li (pO so), lr r11, li 0] [] s16 (qi F)))))))) := fun v' k' hv hk => by
    subst hv
    subst hk
    rw [a3]
    refine ⟨a2, born_c hX1 (by omega) (by have := hg.1.1; omega) (fun c2 hb2 => ?_)⟩
    obtain ⟨o1, o2, o3, -⟩ := (hb2.new hX1).dk
    rw [o3]
    refine ⟨o1, o2, wcv_mono (put_end (r := 0) h1 hT hK hKP hg hD H2 hO1 hK1 hx1 hr1 hb2) (Nat.le_refl _) (fun s14 g => ?_)⟩
    by_cases e : s.2 9 (s.1 16) = 0
    · rw [if_pos e]
      exact ⟨fun _ => ⟨fun q => absurd q (by decide), fun _ => g.2 e⟩, fun q => absurd q (by decide)⟩
    · rw [if_neg e]
      obtain ⟨g1, g2⟩ := g.1 e
      exact ⟨fun q => absurd rfl q, fun _ => ⟨g1, wcv_mono g2 (Nat.le_refl _) (fun s16 g3 => ⟨fun _ => g3, fun q => absurd rfl q⟩)⟩⟩
  refine ⟨a1, bn_c (fun hb => ⟨fun q => absurd q (by decide), fun _ => bk_c (fun hk => ⟨fun q => absurd q (by decide), fun _ => go v k ?_ ?_⟩) (fun hk => ⟨fun _ => go v (-9) ?_ ?_, fun q => absurd rfl q⟩)⟩) (fun hb => ⟨fun _ => bk_c (fun hk => ⟨fun q => absurd q (by decide), fun _ => go (-9) k ?_ ?_⟩) (fun hk => ⟨fun _ => go (-9) (-9) ?_ ?_, fun q => absurd rfl q⟩), fun q => absurd rfl q⟩)⟩
  · unfold nvl; rw [if_pos hb]
  · unfold kvl; rw [if_pos hk]
  · unfold nvl; rw [if_pos hb]
  · unfold kvl; rw [if_neg hk]
  · unfold nvl; rw [if_neg hb]
  · unfold kvl; rw [if_pos hk]
  · unfold nvl; rw [if_neg hb]
  · unfold kvl; rw [if_neg hk]
theorem pmid_ok {so v k : Int} {F : Int → SC → Prop} (h1 : R1 A c s t) (hT : AFT s t) (hg : pgd s so v k) (H1 : ¬ putOk s t so v k → F (putA s t so v k) c) (H2 : putOk s t so v k → wk iv L h0 (d + 1) 13 128 [lr 64, li so, li v, li k, lr (A (s.1 16)), li (if s.2 9 (s.1 16) = 0 then 1 else 0), li (pO so)] [] c (qi F)) : PMID iv L h0 d c so v k F := by
  obtain ⟨⟨d1, d2, d3, d4, d5⟩, e1, e2, e3, e4, e5, e6⟩ := h1.cur hT
  have hB := hT.1.2.2.2.2.1
  have hl := hT.1.2.2.2.1
  have hpo := pO_in so
  have hsr := hg.1
  unfold PMID
  rw [d3, e1, e2, e3, e6]
  have st : (so = 0 ∨ (pO so = 0 ∧ s.2 9 (s.1 16) ≠ 0)) → F (-4) c := fun q => by
    have := H1 (fun w => w.2.1 q)
    rw [putA_st hg q] at this
    exact this
  have fu : ¬ (so = 0 ∨ (pO so = 0 ∧ s.2 9 (s.1 16) ≠ 0)) → (60 < ((fl t).length : Int) + pO so ∨ 3000 < s.1 8 + pfr s so) → F (-2) c := fun q w => by
    have := H1 (fun z => by have := z.2.2; omega)
    rw [putA_fu hg q w] at this
    exact this
  have ok : ¬ (so = 0 ∨ (pO so = 0 ∧ s.2 9 (s.1 16) ≠ 0)) → ((fl t).length : Int) + pO so ≤ 60 → s.1 8 + pfr s so ≤ 3000 → wk iv L h0 (d + 1) 13 128 [lr 64, li so, li v, li k, lr (A (s.1 16)), li (if s.2 9 (s.1 16) = 0 then 1 else 0), li (pO so)] [] c (qi F) := fun q w z => H2 ⟨hg, q, w, z⟩
  by_cases hs : s.2 9 (s.1 16) = 0
  · have hpf : pfr s so = 1 + pO so := if_pos hs
    rw [hpf] at fu ok
    rw [if_pos hs] at ok
    have key : so ≠ 0 → ((fl t).length : Int) + pO so ≤ 60 → ck iv L h0 d 205 [vr 70, vi (pO so + 1)] c (qi fun r16 s15 => ((r16 = 0 → wk iv L h0 (d + 1) 13 128 [lr 64, li so, li v, li k, lr (A (s.1 16)), li 1, li (pO so)] [] s15 (qi F)) ∧ (r16 ≠ 0 → F (-2) s15))) := fun q w => lacks_c h1.1.1 e5 hB (by omega) (fun z => ⟨fun _ => ok (by omega) w (by omega), fun y => absurd rfl y⟩) (fun z => ⟨fun y => absurd y (by decide), fun _ => fu (by omega) (by omega)⟩)
    refine ⟨d1, d2, rfl, fun q => absurd hs q, fun _ => ⟨by omega, fun q => st (Or.inl q), fun q0 => ⟨fun q1 => ⟨by omega, fun q2 => fu (by omega) (by omega), fun q2 => ⟨by omega, key q0 q2⟩⟩, fun q1 => ⟨by omega, fun q2 => fu (by omega) (by omega), fun q2 => ⟨by omega, key q0 q2⟩⟩⟩⟩⟩
  · have hpf : pfr s so = pO so := if_neg hs
    rw [hpf] at fu ok
    rw [if_neg hs] at ok
    refine ⟨d1, d2, rfl, fun _ => ⟨by omega, fun q => st (Or.inl q), fun q0 => ⟨fun q1 => ⟨by omega, fun q2 => fu (by omega) (by omega), fun q2 => lacks_c h1.1.1 e5 hB (by omega) (fun z => ⟨fun _ => ok (by omega) q2 (by omega), fun y => absurd rfl y⟩) (fun z => ⟨fun y => absurd y (by decide), fun _ => fu (by omega) (by omega)⟩)⟩, fun q1 => st (Or.inr ⟨q1, hs⟩)⟩⟩, fun q => absurd q hs⟩
theorem put_c {so v k : Int} {F : Int → SC → Prop} (h1 : R1 A c s t) (hT : AFT s t) (hK : KIs s) (hKS : KSc A c K) (hKP : ∀ u, u ∈ K → KP s u) (hD : 310 ≤ d) (H1 : ¬ putOk s t so v k → F (putA s t so v k) c) (H2 : putOk s t so v k → ∀ e, ACT A c s t K e (putU s so v k) (putT s t so) → F (s.1 8) e) : ck iv L h0 d 13 [vr 64, vi so, vi v, vi k] c (qi F) := by
  obtain ⟨d, rfl⟩ : ∃ k, d = k + 1 + 1 := ⟨d - 2, by omega⟩
  obtain ⟨⟨d1, d2, d3, d4, d5⟩, e1, e2, e3, e4, e5, e6⟩ := h1.cur hT
  have bad : ¬ pgd s so v k → F (-1) c := fun q => by
    have := H1 (fun w => q w.1)
    rw [putA_bad q] at this
    exact this
  have mid : pgd s so v k → PMID iv L h0 (d + 1) c so v k F := fun hg => pmid_ok h1 hT hg H1 (fun hok => put_128 h1 hT hK hKS hKP (by omega) hok (H2 hok))
  unfold pgd at bad
  unfold pgd at mid
  refine C13 ⟨fun q => bad (by omega), fun q0 => ⟨fun q => bad (by omega), fun q1 => fits_c (fun hf => ⟨fun q => absurd q (by decide), fun _ => bk_c (fun hk => ⟨fun q => absurd q (by decide), fun _ => ⟨d1, by rw [d4]; exact d5, ?_⟩⟩) (fun hk => ⟨fun _ => ?_, fun q => absurd rfl q⟩)⟩) (fun hf => ⟨fun _ => bad (fun w => hf ⟨fun z => by have := w.2.1 z; omega, fun z => by have := w.2.2.1 z; omega⟩), fun q => absurd rfl q⟩)⟩⟩
  · rw [d4]
    refine has_c h1.1.1 h1.2.2.1 (fun hkk => ⟨fun _ => ?_, fun q => absurd q (by decide)⟩) (fun hkk => ⟨fun q => absurd rfl q, fun _ => bad (fun w => hkk (w.2.2.2 hk))⟩)
    exact mid ⟨by omega, fun z => by have := hf.1 z; omega, fun z => by have := hf.2 z; omega, fun _ => hkk⟩
  · exact mid ⟨by omega, fun z => by have := hf.1 z; omega, fun z => by have := hf.2 z; omega, fun w => absurd w hk⟩
end
end
