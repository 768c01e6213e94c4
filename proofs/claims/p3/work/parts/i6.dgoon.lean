/-! Going on by the desk: every value, by levels (C241). -/
section
variable {iv : List (Int × Int)} {L : Nat} {h0 : MH} {A A' : Int → Nat} {P : Nat → Prop} {c c0 e f : SC} {σ s s' w : SM} {t : Term} {d p a g x y n : Nat} {b most st kv ks kv' ks' k0 k1 k q : Int} {ys : List (Nat × Nat)} {rs : List Nat} {R : RS} {X Y E V : Term} {l : List (Int × Nat)}
theorem OCD_all (hD : DWX A c0 σ t p) (hFN : FN σ t) (hL : FLK A c0 σ t) : ∀ n : Nat, n ≤ 60 → OCD iv L h0 A c0 σ t p most n := by
  intro n
  induction n with
  | zero =>
    intro _ V st c a hv hV hd hS
    obtain ⟨w1, w2, w3⟩ := hD.wk hS.1
    show ck iv L h0 (9 + 1) 241 [vr 176, vr a, vi 60] c _
    refine C241 ⟨w1, dspent_c hD hS (fun _ => ⟨fun w => (by cases w), fun _ => ⟨w1, ?_⟩⟩) (fun _ w => by omega)⟩
    exact dstop_c hD hS (by decide) (fun e h => (h.sp (k0' := -1) (by show (4 : Int) ≠ 0; decide)).up (by decide) (by decide) (by decide))
  | succ n ih =>
    intro hn V st c a hv hV hd hS
    have hcx := hS.1
    obtain ⟨w1, w2, w3⟩ := hD.wk hcx
    have ev : ∀ R : RS, R = (EV σ most (n + 1)).2 V st → R = if st = most then rst st 4 (-9) else oplE (σ.2 9) (σ.2 10) (σ.2 14) (σ.2 42) (EV σ most n).1 (EV σ most n).2 V (st + 1) := fun R h => h
    have a3 := hS.2.2.1.2.2.1
    have a4 := hS.2.2.2.1
    have hW := WCD_all (iv := iv) (L := L) (h0 := h0) (most := most) hD n (by omega)
    have hO := ih (by omega)
    obtain ⟨⟨d1, d1'⟩, d2, d3⟩ := DV_kind hv hd
    rw [show 3 * (n + 1) + 10 = (3 * n + 12) + 1 by omega]
    refine C241 ⟨w1, dspent_c hD hS (fun q => ⟨fun w => (by cases w), fun _ => ⟨w1, ?_⟩⟩) (fun q1 q2 => ⟨fun _ => ⟨w1, by omega, d1', ?_⟩, fun w => absurd rfl w⟩)⟩
    · have evn := ev _ rfl
      rw [if_pos (by omega)] at evn
      rw [evn]
      exact dstop_c hD hS (by decide) (fun e h => (h.sp (k0' := -1) (by show (4 : Int) ≠ 0; decide)).up (by decide) (by decide) (by decide))
    · have evn := ev _ rfl
      rw [if_neg (by omega)] at evn
      rw [evn, d2, a3]
      obtain ⟨x1, x2, x3, x4⟩ := step_x hD hS (st + 1)
      have S1 := DWS.step hD hS q1
      have hd2 := DV_up x2.1 _ V a [] (Nat.lt_succ_self _) hd
      have lv : ∀ {R : RS} {a' : Nat} {e : SC}, DWP A p 1 0 1 (uI c 176 3 (st + 1)) (st + 1) R a' e → DWP A p 0 (-1) 1 c st R a' e := fun h => (DWP.lev hD hS h).up (by decide) (by decide) (by decide)
      have hp := hS.2.2.1.1
      have pl : ∀ (k N : Int) (W : Term), W = V → (∀ (S1 : DWS c0 p most (st + 1) 2 1 (uI c 176 3 (st + 1))) (F : Nat → SC → Prop), (∀ a' e, DWP A p 1 0 0 (uI c 176 3 (st + 1)) (st + 1) (rok (st + 1) W) a' e → F a' e) → ck iv L h0 (3 * n + 10 + 2) 196 [vr p, vi k, vi N] (uI c 176 3 (st + 1)) (qa F)) → (∀ {st' : Int}, oplE (σ.2 9) (σ.2 10) (σ.2 14) (σ.2 42) (EV σ most n).1 (EV σ most n).2 V st' = rok st' V) → ck iv L h0 (3 * n + 12) 196 [vr p, vi k, vi N] (uI c 176 3 (st + 1)) (qa fun r s => DWP A p 0 (-1) 1 c st (oplE (σ.2 9) (σ.2 10) (σ.2 14) (σ.2 42) (EV σ most n).1 (EV σ most n).2 V (st + 1)) r s) := fun k N W hW h1 h2 => by
        subst hW
        rw [h2]
        exact h1 S1 _ (fun a' e h => lv (h.up (by decide) (by decide) (by decide)))
      have n1 : fI c a 1 = fI c a 1 := rfl
      refine ⟨fun q => ⟨by omega, ?_⟩, fun q => ⟨by omega, ?_⟩, fun q => ⟨by show kl c (fR c 176 0) = 6; rw [hp]; exact w2, ?_⟩, fun q => ⟨by omega, ?_⟩⟩
      · -- holes and DEFs
        cases V with
        | sub b E =>
          cases b with
          | index b => exact don2_c hD hFN hL hW hO S1 ⟨by decide, by decide⟩ (by omega) (Or.inl rfl) hV hd2 (fun a' e h => lv h)
          | _ => cases hv
        | div b E =>
          cases b with
          | index b => exact don2_c hD hFN hL hW hO S1 ⟨by decide, by decide⟩ (by omega) (Or.inr rfl) hV hd2 (fun a' e h => lv h)
          | _ => cases hv
        | int _ => exfalso; revert q; show (0 : Int) = 2 ∨ (0 : Int) = 4 → False; decide
        | arg _ => exfalso; revert q; show (1 : Int) = 2 ∨ (1 : Int) = 4 → False; decide
        | add _ _ => exfalso; revert q; show (3 : Int) = 2 ∨ (3 : Int) = 4 → False; decide
        | index _ => exfalso; revert q; show (5 : Int) = 2 ∨ (5 : Int) = 4 → False; decide
        | length _ => exfalso; revert q; show (6 : Int) = 2 ∨ (6 : Int) = 4 → False; decide
        | rem _ _ => exfalso; revert q; show (7 : Int) = 2 ∨ (7 : Int) = 4 → False; decide
        | _ => cases hv
      · cases V with
        | add X Y => exact don3_c hD hFN hO S1 ⟨by decide, by decide⟩ (by omega) hV hd2 (fun a' e h => lv h)
        | rem b z =>
          cases b with
          | index b =>
            cases z with
            | elem X z =>
              cases z with
              | elem Y E => exact don7_c hD hFN hW hO S1 ⟨by decide, by decide⟩ (by omega) hV hd2 (fun a' e h => lv h)
              | _ => cases hv
            | _ => cases hv
          | _ => cases hv
        | int _ => exfalso; revert q; show (0 : Int) = 3 ∨ (0 : Int) = 7 → False; decide
        | arg _ => exfalso; revert q; show (1 : Int) = 3 ∨ (1 : Int) = 7 → False; decide
        | sub _ _ => exfalso; revert q; show (2 : Int) = 3 ∨ (2 : Int) = 7 → False; decide
        | div _ _ => exfalso; revert q; show (4 : Int) = 3 ∨ (4 : Int) = 7 → False; decide
        | index _ => exfalso; revert q; show (5 : Int) = 3 ∨ (5 : Int) = 7 → False; decide
        | length _ => exfalso; revert q; show (6 : Int) = 3 ∨ (6 : Int) = 7 → False; decide
        | _ => cases hv
      · show ck iv L h0 (3 * n + 12) 196 [vr (fR c 176 0), vi _, vi (fI c a 1)] _ _
        rw [hp]
        cases V with
        | int z =>
          have v1 : fI c a 1 = z.toInt := hd.2.1
          have hz : inR z.toInt := ⟨Int32.le_toInt z, by have := Int32.toInt_lt z; omega⟩
          rw [v1]
          refine pl 0 z.toInt (.int (Int32.ofInt z.toInt)) (by rw [Int32.ofInt_toInt]) (fun S1 F hF => dint_c hD S1 (by decide) hz hF) rfl
        | arg z =>
          have v1 : fI c a 1 = (z : Int) := hd.2.1
          rw [v1]
          exact pl 1 z (.arg (z : Int).toNat) (by rw [Int.toNat_natCast]) (fun S1 F hF => darg_c hD S1 (by decide) (by omega) hF) rfl
        | index z =>
          have v1 : fI c a 1 = (z : Int) := hd.2.1
          rw [v1]
          exact pl 5 z (.index (z : Int).toNat) (by rw [Int.toNat_natCast]) (fun S1 F hF => dindex_c hD S1 (by decide) (by omega) hF) rfl
        | add _ _ => exfalso; revert q; show (3 : Int) = 5 ∨ (3 : Int) < 2 ∨ 7 < (3 : Int) → False; decide
        | sub _ _ => exfalso; revert q; show (2 : Int) = 5 ∨ (2 : Int) < 2 ∨ 7 < (2 : Int) → False; decide
        | div _ _ => exfalso; revert q; show (4 : Int) = 5 ∨ (4 : Int) < 2 ∨ 7 < (4 : Int) → False; decide
        | length _ => exfalso; revert q; show (6 : Int) = 5 ∨ (6 : Int) < 2 ∨ 7 < (6 : Int) → False; decide
        | rem _ _ => exfalso; revert q; show (7 : Int) = 5 ∨ (7 : Int) < 2 ∨ 7 < (7 : Int) → False; decide
        | _ => cases hv
      · cases V with
        | length X =>
          obtain ⟨v1, v2⟩ := hV
          obtain ⟨-, -, g3⟩ := hd2
          obtain ⟨r1, r2, r3⟩ := EV_okO (most := most) hD hFN n X (st + 1) v1 v2 (by omega)
          have e0 : oplE (σ.2 9) (σ.2 10) (σ.2 14) (σ.2 42) (EV σ most n).1 (EV σ most n).2 (.length X) (st + 1) = bnR ((EV σ most n).2 X (st + 1)) (fun st x => rok st (.length x)) := rfl
          rw [e0, show 60 - ((n + 1 : Nat) : Int) + 1 = 60 - (n : Int) by omega]
          refine ck_mono (hO X (st + 1) _ _ v1 v2 g3 (S1.up (by decide) (by decide))) (by omega) (fun x e h => ?_)
          have hne := h.ne (fun q => (r3 q).2.1)
          generalize (EV σ most n).2 X (st + 1) = R at *
          by_cases g0 : R.2.1 = 0
          · obtain ⟨z1, z2, z3⟩ := r3 g0
            rw [bnR_0 g0]
            have S2 := S1.nx (hD.fx S1.1) h r1 ⟨g0, z1⟩
            refine ⟨fun _ => ⟨(hD.wk S2.1).1, ?_⟩, fun w => absurd w (hne.mp g0)⟩
            rw [S2.2.2.1.1]
            exact ⟨(hD.wk S2.1).2.1, dlen_c hD S2 (by omega) (h.2.2.2.2.1 g0) (fun a' e' h' => lv ((h.tr g0 h').up (by decide) (by decide) (by decide)))⟩
          · rw [bnR_n g0]
            have ea : x = 2 := h.2.2.2.2.2 g0
            subst ea
            exact ⟨fun w => absurd rfl w, fun _ => lv (h.up (by decide) (by decide) (by decide))⟩
        | int _ => exfalso; revert q; show (0 : Int) = 6 → False; decide
        | arg _ => exfalso; revert q; show (1 : Int) = 6 → False; decide
        | sub _ _ => exfalso; revert q; show (2 : Int) = 6 → False; decide
        | add _ _ => exfalso; revert q; show (3 : Int) = 6 → False; decide
        | div _ _ => exfalso; revert q; show (4 : Int) = 6 → False; decide
        | index _ => exfalso; revert q; show (5 : Int) = 6 → False; decide
        | rem _ _ => exfalso; revert q; show (7 : Int) = 6 → False; decide
        | _ => cases hv
end
