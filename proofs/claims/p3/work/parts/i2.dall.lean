/-! Working by the desk: every node, by levels. -/
section
variable {iv : List (Int × Int)} {L : Nat} {h0 : MH} {A A' : Int → Nat} {P : Nat → Prop} {c c0 e f : SC} {σ s s' w : SM} {t : Term} {d p a g x y n : Nat} {b most st kv ks kv' ks' k0 k1 k q : Int} {ys : List (Nat × Nat)} {rs : List Nat} {R : RS} {X Y E : Term} {l : List (Int × Nat)}
theorem dspent_c {z : Int} {F : Int → SC → Prop} (hD : DWX A c0 σ t p) (hS : DWS c0 p most st kv ks c) (h1 : st = most ∨ 60 ≤ z → F 1 c) (h0' : st < most → z < 60 → F 0 c) : ck iv L h0 d 233 [vr 176, vi z] c (qi F) := by
  obtain ⟨w1, w2, w3⟩ := hD.wk hS.1
  have e2 := hS.2.2.1.2.1
  have e3 := hS.2.2.1.2.2.1
  have e4 := hS.2.2.2.1
  refine C233 ⟨w1, ?_⟩
  rw [e2, e3]
  exact ⟨fun q => h1 (Or.inl (by omega)), fun q => ⟨fun q2 => h0' q q2, fun q2 => h1 (Or.inr q2)⟩⟩
theorem DWP.sp {k0' : Int} (h : DWP A p kv k0 k1 c st R a e) (hR : R.2.1 ≠ 0) : DWP A p kv k0' k1 c st R a e := by
  obtain ⟨a1, a2, a3, a4, a5, a6⟩ := h
  rw [if_neg hR] at a4
  exact ⟨a1, a2, a3, ⟨a4.1, by rw [if_neg hR]; exact a4.2⟩, a5, a6⟩
theorem WCD_all (hD : DWX A c0 σ t p) : ∀ n : Nat, n ≤ 60 → WCD iv L h0 A c0 σ t p most n := by
  intro n
  induction n with
  | zero =>
    intro _ b st E c g l hb hE hV hc hg1 hg2 hS
    obtain ⟨w1, w2, w3⟩ := hD.wk hS.1
    obtain ⟨⟨n1, n2, n3, n4, n5⟩, -⟩ := hD.node hS.1 hb
    show ck iv L h0 (9 + 1) 234 [vr 176, vr (A b), vr g, vi 60] c _
    refine C234 ⟨w1, dspent_c hD hS (fun _ => ⟨fun w => (by cases w), fun _ => ⟨n1, w1, ?_⟩⟩) (fun _ w => by omega)⟩
    rw [n2]
    exact dstop_c hD hS (by decide) (fun e h => (h.sp (k0' := -1) (by show (4 : Int) ≠ 0; decide)).up (by decide) (by decide) (by decide))
  | succ n ih =>
    intro hn b st E c g l hb hE hV hc hg1 hg2 hS
    have hcx := hS.1
    have hT := hD.1.2.1
    obtain ⟨w1, w2, w3⟩ := hD.wk hcx
    obtain ⟨⟨n1, n2, n3, n4, n5⟩, ⟨r1, r2, r3⟩, -⟩ := hD.node hcx hb
    have ev : ∀ R : RS, R = (EV σ most (n + 1)).1 b E st → R = if st = most then rst st 4 b else frmE (σ.2 21) b (wplE (σ.2 9) (σ.2 10) (σ.2 14) (σ.2 21) (EV σ most n).1 b E (st + 1)) := fun R h => h
    have a3 := hS.2.2.1.2.2.1
    have a4 := hS.2.2.2.1
    rw [show 3 * (n + 1) + 10 = (3 * n + 12) + 1 by omega]
    refine crs_ok (ci := 4) (y := 4) (by decide) (by decide) rfl (fun hR => ?_)
    have hin : inR (σ.2 10 b) := by have := hR _ n1; rw [n4] at this; exact this
    refine C234 ⟨w1, dspent_c hD hS (fun q => ⟨fun w => (by cases w), fun _ => ⟨n1, w1, ?_⟩⟩) (fun q1 q2 => ⟨fun _ => ⟨w1, by omega, n1, ?_⟩, fun w => absurd rfl w⟩)⟩
    · rw [n2]
      have evn := ev _ rfl
      rw [if_pos (by omega)] at evn
      rw [evn]
      exact dstop_c hD hS (by decide) (fun e h => (h.sp (k0' := -1) (by show (4 : Int) ≠ 0; decide)).up (by decide) (by decide) (by decide))
    · have evn := ev _ rfl
      rw [if_neg (by omega)] at evn
      rw [evn, n3, a3]
      obtain ⟨x1, x2, x3, x4⟩ := step_x hD hS (st + 1)
      have S1 := DWS.step hD hS q1
      have hgs : CHN (uI c 176 3 (st + 1)) (YNG (uI c 176 3 (st + 1)) p) g l ∧ DV A (uI c 176 3 (st + 1)) (YNG (uI c 176 3 (st + 1)) p) E 2 l := ⟨CHN.up x2.2 l g hg1, DV_up x2.2 _ E 2 l (Nat.lt_succ_self _) hg2⟩
      refine ⟨fun q => ⟨by omega, ?_⟩, fun q => ?_⟩
      · have hRO : RO σ t most (st + 1) (wplE (σ.2 9) (σ.2 10) (σ.2 14) (σ.2 21) (EV σ most n).1 b E (st + 1)) := work_ok1 hT hD.num hD.1.2.2.2 (most := most) (fun b E st h1 h2 h3 h4 h5 => EV_okd hD n b E st h1 h2 h3 h4 h5) hb hE hV hc (by omega)
        have hr1 : σ.2 21 b ≠ 1 := fun w => q (r3 w)
        have evf : frmE (σ.2 21) b (wplE (σ.2 9) (σ.2 10) (σ.2 14) (σ.2 21) (EV σ most n).1 b E (st + 1)) = if 1 < σ.2 21 b then bnR (wplE (σ.2 9) (σ.2 10) (σ.2 14) (σ.2 21) (EV σ most n).1 b E (st + 1)) (fun st x => rok st (.length x)) else wplE (σ.2 9) (σ.2 10) (σ.2 14) (σ.2 21) (EV σ most n).1 b E (st + 1) := rfl
        rw [evf]
        refine dnode_c hD (ih (by omega)) S1 ⟨by decide, by decide⟩ (by omega) hb q ⟨hE, hV, hc⟩ hgs hin (fun a e h => ?_)
        have hne := h.ne (fun q => (hRO.2.2 q).2.1)
        have hx1 := (x1.tr h.1.1)
        obtain ⟨⟨o1, o2, o3, o4, o5⟩, -⟩ := hD.node (hcx.tr hx1) hb
        by_cases g0 : (wplE (σ.2 9) (σ.2 10) (σ.2 14) (σ.2 21) (EV σ most n).1 b E (st + 1)).2.1 = 0
        · obtain ⟨v1, v2, v3⟩ := hRO.2.2 g0
          refine ⟨fun w => absurd w (hne.mp g0), fun _ => ⟨o1, ?_⟩⟩
          rw [o5]
          refine ⟨fun q3 => ?_, fun q3 => ?_⟩
          · rw [if_pos (by omega), bnR_0 g0]
            have S2 := S1.nx (hD.fx S1.1) h hRO.1 ⟨g0, v1⟩
            rw [S2.2.2.1.1]
            refine ⟨(hD.wk S2.1).1, (hD.wk S2.1).2.1, ?_⟩
            exact dlen_c hD S2 (by omega) (h.2.2.2.2.1 g0) (fun a' e' h' => (DWP.lev hD hS (h.tr g0 h')).up (by decide) (by decide) (by decide))
          · rw [if_neg (by omega)]
            exact (DWP.lev hD hS h).up (by decide) (by decide) (by decide)
        · have ea : a = 2 := h.2.2.2.2.2 g0
          subst ea
          refine ⟨fun _ => ?_, fun w => absurd rfl w⟩
          rw [bnR_n g0]
          split <;> exact (DWP.lev hD hS h).up (by decide) (by decide) (by decide)
      · exact dname_c hD S1 (by decide) hb q ⟨hE, hV, hc⟩ hgs (fun a e h => (DWP.lev hD hS h).up (by decide) (by decide) (by decide))
end
