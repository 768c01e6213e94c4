/-! fill() by the desk, whole. -/
/-- the sheet behind a fill -/
def filV (s st : SM) : SM := us (replU st (s.1 16) (s.1 8)) 16 (s.1 8)
/-- what fill() leaves on the desk -/
def FIL (A : Int → Nat) (c : SC) (s : SM) (t : Term) (K : List Snap) (u : Snap) (e : SC) : Prop := ∃ A' st, R1 A' e (filV s st) (filT s t u) ∧ FBs s u (fl u.1).length st ∧ EXT A A' (s.1 8) ∧ CX unY acR c e ∧ RMk 130 1200 c e ∧ KSc A' e (push K (t, s)) ∧ NWc (nxt c) e ∧ fI e 64 15 = fI c 64 15 ∧ fR e (A (s.1 16)) 12 = A' (s.1 8) ∧ ∀ a, a < nxt c → a ≠ A (s.1 16) → kl c a = 5 → fR e a 12 = fR c a 12
theorem snR_lt : ∀ a, a ∈ snR → a < 199 := fun a ha => by
  have : snR.all (fun a => decide (a < 199)) = true := by decide
  exact of_decide_eq_true (List.all_eq_true.mp this a ha)
/-- parts are not the first -/
theorem AT_kid {so pa up pl : Int → Int} {B : Int} : ∀ (t : Term), AT so pa up pl B t → (fl t).Nodup → ∀ x i, x ∈ fl t → 0 ≤ i → i < pO (so x) → (x = hd t → i < na t) → pa (3 * x + i) ≠ hd t := by
  intro t
  induction t with
  | index n =>
    intro h _ x i hx i0 i1 i2
    have hx := List.mem_singleton.mp hx
    have := i2 hx
    have e : na (Term.index n) = 0 := rfl
    omega
  | add t y ih ihy =>
    intro h hnd x i hx i0 i1 i2
    obtain ⟨h1, h2, h3, h4, h5, h6, h7⟩ := h
    have e : fl (Term.add t y) = fl t ++ fl y := rfl
    have en : na (Term.add t y) = na t + 1 := rfl
    have eh : hd (Term.add t y) = hd t := rfl
    rw [e] at hnd hx
    obtain ⟨d1, d2, d3⟩ := List.nodup_append.mp hnd
    rw [eh] at i2 ⊢
    rw [en] at i2
    have ht := hd_mem t h1
    rcases List.mem_append.mp hx with hx | hx
    · by_cases q : x = hd t
      · by_cases q2 : i < na t
        · exact ih h1 d1 x i hx i0 i1 (fun _ => q2)
        · have q3 := i2 q
          have : i = na t := by omega
          rw [q, this, h5]
          exact fun w => d3 _ ht _ (hd_mem y h2) w.symm
      · exact ih h1 d1 x i hx i0 i1 (fun w => absurd w q)
    · have hm := ((AT_mem y h2 x hx).2.2.1 i i0 i1 (fun w => by rw [h3, ← w]; exact i1)).1
      exact fun w => d3 _ ht _ hm w.symm
  | _ => intro h; exact h.elim
section
variable {iv : List (Int × Int)} {L : Nat} {h0 : MH} {A A' : Int → Nat} {c e : SC} {s s' w st : SM} {t : Term} {d : Nat} {P : Int → Prop} {Q : Int → Int → Prop} {K : List Snap} {u : Snap}
theorem filV_o {f : Nat} (h : f ≠ 12 ∧ f ≠ 13 ∧ f ≠ 14) : (filV s st).2 f = st.2 f := replU_e.2 f (by simp; omega)
theorem fil_old (h : FBs s u (fl u.1).length st) (hT : AFT s t) : ((filV s st).1 8 = s.1 8 + (fl u.1).length ∧ (filV s st).1 16 = s.1 8 ∧ (filV s st).1 2 = s.1 2) ∧ (∀ y, y < s.1 8 → (filV s st).2 9 y = s.2 9 y ∧ (filV s st).2 10 y = s.2 10 y ∧ (filV s st).2 11 y = s.2 11 y) ∧ ∀ (j : Nat) (x : Int), (fl u.1)[j]? = some x → (filV s st).2 9 (s.1 8 + j) = u.2.2 9 x ∧ (filV s st).2 10 (s.1 8 + j) = u.2.2 10 x ∧ (filV s st).2 11 (s.1 8 + j) = u.2.2 11 x := by
  obtain ⟨f1, f2, f3, f4, f5⟩ := h
  refine ⟨⟨(replU_e.1 8 (by decide)).trans f1, rfl, (replU_e.1 2 (by decide)).trans (f2.1 2 (by decide))⟩, fun y hy => ?_, fun j x hj => ?_⟩
  · rw [filV_o (by decide), filV_o (by decide), filV_o (by decide)]
    exact (f3 y hy).1
  · rw [filV_o (by decide), filV_o (by decide), filV_o (by decide)]
    exact f4 j x (List.getElem?_eq_some_iff.mp hj).1 hj
theorem fil_aft (h : FBs s u (fl u.1).length st) (hT : AFT s t) (hu : AT (u.2.2 9) (u.2.2 14) (u.2.2 12) (u.2.2 13) (u.2.1 8) u.1 ∧ full (u.2.2 9) u.1 ∧ (fl u.1).Nodup ∧ (fl u.1).length ≤ 60) (hb : ∀ x, x ∈ fl u.1 → bearOk (s.1 2) (u.2.2 9 x) (u.2.2 10 x) (u.2.2 11 x)) (hl : (fl t).length - 1 + (fl u.1).length ≤ 60 ∧ s.1 8 + (fl u.1).length ≤ 3000) : AFT (filV s st) (filT s t u) := by
  obtain ⟨⟨v8, v16, v2⟩, vo, vn⟩ := fil_old h hT
  obtain ⟨f1, f2, f3, f4, f5⟩ := h
  obtain ⟨hS, hN, hc⟩ := hT
  obtain ⟨b4, b5, b6, b7⟩ := hu
  have hct := hS.lt hc
  have h8 := hS.2.2.2.2.1
  have lp := List.length_pos_of_mem (hd_mem _ b4)
  have hBn : (((s.1 8).toNat : Nat) : Int) = s.1 8 := by omega
  have o12 : ∀ z, z < s.1 8 → st.2 12 z = s.2 12 z ∧ st.2 13 z = s.2 13 z := fun z hz => (f3 z hz).2.1
  obtain ⟨r1, r2, r3, r4, r5⟩ := replU_in (s1 := st) (b := s.1 8) hS hc (o12 _ hct.2.1).1 (o12 _ hct.2.1).2
  obtain ⟨l1, l2, l3⟩ := rlb_fl u.1 (s.1 8).toNat b4
  rw [hBn] at l2
  have hub : 3 * s.2 12 (s.1 16) + s.2 13 (s.1 16) < 3 * s.1 8 := by
    by_cases q : s.1 16 = hd t
    · have q1 := hS.2.2.2.2.2.2.1
      have q2 := hS.2.2.2.2.2.2.2
      rw [← q] at q1 q2
      omega
    · obtain ⟨u1, u2, u3⟩ := (AT_mem t hS.1 _ hc).2.2.2 q
      have := hS.lt u1
      have := pO_in (s.2 9 (s.2 12 (s.1 16)))
      omega
  have ndi : ∀ (a b : Nat) (z : Int), (fl u.1)[a]? = some z → (fl u.1)[b]? = some z → a = b := fun a b z ha hb => by
    obtain ⟨a1, a2⟩ := List.getElem?_eq_some_iff.mp ha
    obtain ⟨b1, b2⟩ := List.getElem?_eq_some_iff.mp hb
    exact (List.getElem_inj b6).mp (a2.trans b2.symm)
  obtain ⟨r0, hr0⟩ := fl_hd _ b4
  have hd0 : (fl u.1)[0]? = some (hd u.1) := by rw [hr0]; rfl
  have hpl : ∀ (k : Nat) (x : Int), 0 < k → (fl u.1)[k]? = some x → 0 ≤ u.2.2 13 x := fun k x k0 hk => by
    have hne : x ≠ hd u.1 := fun q => by
      have := ndi k 0 _ (by rw [hk, q]) hd0
      omega
    exact ((AT_mem u.1 b4 x (List.mem_of_getElem? hk)).2.2.2 hne).2.1.1
  have len := len_rp hS hc (rlb u.1 (s.1 8).toNat)
  have lfl : (fl (rlb u.1 (s.1 8).toNat)).length = (fl u.1).length := by rw [l1]; simp
  have hsp := sq_pos hS hc
  rw [lfl] at len
  have hat : ATs (filV s st) (rlb u.1 (s.1 8).toNat) := by
    refine AT_rlb u.1 (s.1 8).toNat b4 b6 (by rw [hBn, v8]; exact Int.le_refl _) (fun k x hk => ?_) (fun k x j k0 hk hj => ?_)
    · rw [hBn]; exact (vn k x hk).1
    · have hkl := (List.getElem?_eq_some_iff.mp hk).1
      obtain ⟨g1, g2, g3⟩ := f5 k x j k0 hkl hk hj
      have hp := hpl k x k0 hk
      have q4 := r4 (s.1 8 + k) (by omega)
      rw [hBn]
      exact ⟨q4.1.trans g1, q4.2.trans g2, (r5 _ (by omega)).trans g3⟩
  have vhd : na (rlb u.1 (s.1 8).toNat) = pO ((filV s st).2 9 (hd (rlb u.1 (s.1 8).toNat))) := by
    rw [l3, l2]
    have := (vn 0 (hd u.1) hd0).1
    rw [show s.1 8 + ((0 : Nat) : Int) = s.1 8 by omega] at this
    rw [this]
    exact b5
  refine ⟨SHT_rp (w := filV s st) hS hc ⟨by omega, by omega⟩ hat vhd (rlb_nd b4) (fun z hz hzt => ?_) (fun z hz hzn => ?_) ?_ ?_ ?_ (by omega), NB_new hN v2 (fun z z0 z1 => vo z z1) (fun z z0 z1 => ?_), ?_⟩
  · have := rlb_at b4 hz
    have := hS.lt hzt
    omega
  · have hzl := hS.lt hz
    have q1 := r4 z (by omega)
    have q2 := o12 z hzl.2.1
    exact ⟨(vo z hzl.2.1).1, q1.1.trans q2.1, q1.2.trans q2.2, fun i i0 i3 hi => (r5 _ hi).trans ((f3 z hzl.2.1).2.2 i i0 i3)⟩
  · rw [l2]; exact r1
  · intro q; rw [l2]; exact r2 q
  · rw [l2]
    show (replU st (s.1 16) (s.1 8)).1 15 = _
    rw [r3, f2.1 15 (by decide)]
  · have hk : (z - s.1 8).toNat < (fl u.1).length := by omega
    have g := vn _ _ (List.getElem?_eq_getElem hk)
    rw [show s.1 8 + (((z - s.1 8).toNat : Nat) : Int) = z by omega] at g
    have g2 := hb _ (List.mem_of_getElem? (List.getElem?_eq_getElem hk))
    unfold nodOk
    rw [g.1, g.2.1, g.2.2, v2]
    exact ⟨g2.1, g2.2.1, g2.2.2.1, g2.2.2.2.1⟩
  · rw [v16]
    have hm := hd_mem _ hat
    rw [l2] at hm
    exact len.2 _ hm
/-- judged anew -/
theorem settled_ok {F : SC → Prop} (h : OP A c s P Q) (hc : fR c 70 2 = A (s.1 16)) (hT : AFT s t) (hK : KIs s) (hP : ∀ x, x ∈ fl t → P x) (hQ : ∀ x i, x ∈ fl t → 0 ≤ i → i < pO (s.2 9 x) → Q x i) (hD : 231 ≤ d) (hF : ∀ e, R1 A e s t → CX sys srs c e → RMk 0 0 c e → F e) : ck iv L h0 d 51 [vr 64] c (qv F) := by
  obtain ⟨hS, hB, hcm⟩ := hT
  have hH := op_HG h hS hP hQ
  obtain ⟨⟨hX, hN, hI⟩, hLP, ⟨ht, h8, ht0, ht8⟩, hKI, hB8⟩ := h
  have hk := hX.dk
  have h3 := hX.2.2.1
  refine settle_ok hX hN hH hS hB hK hKI hD (fun e hxe hre hL hI2 hJ => ?_)
  refine hF e ⟨⟨hX.x hxe (by decide) (by decide), hN.x hxe (by decide) (by decide) (by decide) (by decide) (by decide), hH.x hN hS.m hX hxe (by decide) (by decide) (by decide) (by decide), hL⟩, ⟨?_, ?_⟩, hI2, hJ⟩ hxe hre
  · rw [hxe.r (a := 70) (by omega) (by rw [hk.2.1]; decide)]
    exact hc
  · rw [hxe.i (a := 70) (by omega) (by rw [hk.2.1]; decide)]
    exact h8
theorem fill_c {p : Int} {F : Int → SC → Prop} {Sh : Int → Option Snap} (h1 : R1 A c s t) (hT : AFT s t) (hK : KIs s) (hKS : KSc A c K) (hKP : ∀ u, u ∈ K → KP s u) (hSh : SHc c Sh) (hSL : ShL s Sh) (hr : 0 ≤ aI c 198 1 ∧ aI c 198 1 ≤ 600) (hD : 300 ≤ d) (H1 : filF s t Sh p = 1 → F (-1) c) (H2 : filF s t Sh p = 2 → F (-4) c) (H3 : filF s t Sh p = 3 → F (-3) (refC c 1)) (H4 : filF s t Sh p = 4 → F (-2) c) (H0 : ∀ u, filF s t Sh p = 0 → Sh p = some u → ∀ e, FIL A c s t K u e → F (s.1 8) e) : ck iv L h0 d 20 [vr 64, vi p] c (qi F) := by
  obtain ⟨d, rfl⟩ : ∃ k, d = k + 1 + 2 := ⟨d - 3, by omega⟩
  obtain ⟨⟨d1, d2, d3, d4, d5⟩, e1, e2, e3, e4, e5, e6⟩ := h1.cur hT
  have hS := hT.1
  have hB := hS.2.2.2.2.1
  have hlp := List.length_pos_of_mem hT.2.2
  have hll := hS.2.2.2.1
  have hk : fR c 64 6 = 193 ∧ kl c 193 = 105 ∧ le c 193 = 6 := by simp only [h1.1.1.1]; exact ⟨trivial, trivial, trivial⟩
  refine C20 (C41 ⟨fun q => ⟨fun w => absurd rfl w, fun _ => H1 (by unfold filF; rw [if_neg (by omega)])⟩, fun q => ⟨fun q2 => ⟨fun w => absurd rfl w, fun _ => H1 (by unfold filF; rw [if_neg (by omega)])⟩, fun q2 => ⟨fun _ => ?_, fun w => absurd w (by decide)⟩⟩⟩)
  obtain ⟨i, rfl⟩ : ∃ i : Nat, p = i := ⟨p.toNat, by omega⟩
  have hi : i < 6 := by omega
  obtain ⟨o1, o2, -⟩ := h1.1.1.2.1.2 i hi
  have h353 := h1.1.1.2.2.1
  rw [hk.1, hk.2.1, hk.2.2, o1, o2, d3, e1, e2, e3, e6]
  refine ⟨d1, d2, rfl, fun ho => ?_, fun ho => H2 (by unfold filF; rw [if_pos (by omega), if_neg ho])⟩
  obtain ⟨c1, c2⟩ := hSh i hi
  obtain ⟨s1, s2⟩ := hSL i (by omega) (by omega)
  cases hSp : Sh (i : Int) with
  | none =>
    have f3 : filF s t Sh i = 3 := by
      unfold filF filN
      rw [if_pos (by omega), if_pos ho, hSp, if_pos rfl]
    rw [c1 hSp]
    refine ⟨rfl, by omega, by omega, rfl, by omega, fun w => by omega, fun _ => lacks_c h1.1.1 e5 hB (by omega) (fun _ => ⟨fun _ => ⟨o2, fun w => ?_, fun _ => ⟨d1, refuse_c h1.1.1 (by decide) hr (H3 f3)⟩⟩, fun w => absurd rfl w⟩) (fun w => by omega)⟩
    rw [c1 hSp] at w
    omega
  | some u =>
    have hC := c2 u hSp
    obtain ⟨b1, b2, b3⟩ := s2 u hSp
    have lp := List.length_pos_of_mem (hd_mem _ b2.1)
    have fn : filN s Sh i = (fl u.1).length := by unfold filN; rw [hSp]
    have fl4 : (60 < (fl t).length - 1 + (fl u.1).length ∨ 3000 < s.1 8 + (fl u.1).length) → filF s t Sh i = 4 := fun q => by
      unfold filF
      rw [if_pos (by omega), if_pos ho, fn, if_neg (by omega), if_pos q]
    have hu60 := b2.2.2.2
    rw [hC.1]
    refine ⟨rfl, by omega, by omega, rfl, by omega, fun w => H4 (fl4 (by omega)), fun q => lacks_c h1.1.1 e5 hB (by omega) (fun q2 => ⟨fun _ => ?_, fun w => absurd rfl w⟩) (fun q2 => ⟨fun w => absurd w (by decide), fun _ => H4 (fl4 (by omega))⟩)⟩
    have f0 : filF s t Sh i = 0 := by
      unfold filF
      rw [if_pos (by omega), if_pos ho, fn, if_neg (by omega), if_neg (by omega)]
    have hbear : ∀ x, x ∈ fl u.1 → bearOk (s.1 2) (u.2.2 9 x) (u.2.2 10 x) (u.2.2 11 x) := fun x hx => by
      obtain ⟨k, hk1, hk2⟩ := List.mem_iff_getElem.mp hx
      exact (b3 k x (by rw [List.getElem?_eq_getElem hk1, hk2])).2
    refine ⟨o2, fun _ => ?_, fun w => by rw [hC.1] at w; omega⟩
    rw [d3]
    refine ⟨d1, d2, rem_ok h1 hT hKS (fun c1 hO1 hK1 hx1 hr1 => ?_)⟩
    obtain ⟨a1, a2, a3, -⟩ := hO1.1.1.dk
    have hCc1 : CPc c1 (199 + 6 * i) u := ((SHc.x hSh h1.1.1 hx1 (by decide) (fun a ha => Or.inl (snR_lt a ha))) i hi).2 u hSp
    rw [a3]
    refine ⟨a1, (hO1.1.1.2.1.2 i hi).2.1, bornInto_ok hi hO1 hCc1 b2 (fun x hx => ⟨(hbear x hx).1, (hbear x hx).2.2.2.2⟩) (by omega) (fun A' c2 st hBI => ?_)⟩
    obtain ⟨hO2, hFB, hE, hx2, hr2, hW2⟩ := hBI
    obtain ⟨⟨v8, v16, v2⟩, vo, vn⟩ := fil_old hFB hT
    have hAf := fil_aft hFB hT b2 hbear ⟨by omega, by omega⟩
    have hcb := hS.m _ hT.2.2
    obtain ⟨a1, a2, a3, -⟩ := hO2.1.1.dk
    rw [a3, ← hE (s.1 16) hcb.2]
    have f8 := hFB.1
    refine ⟨a1, a2, repl_c hO2 (Or.inl hT.2.2) ⟨hB.1, by omega⟩ (fun q => ?_) (fun c3 hO3 hx3 hr3 => ?_)⟩
    · have o := (hFB.2.2.1 _ hcb.2).2.1
      rw [o.1] at q ⊢
      rw [o.2]
      have hu := pl_in hS hT.2.2 q
      have hum : s.2 12 (s.1 16) ∈ fl t := hS.up9 hT.2.2 (fun w => q (by rw [w]; exact hS.2.2.2.2.2.2.1))
      rw [(hFB.2.2.1 _ (hS.m _ hum).2).1.1]
      exact hu
    obtain ⟨a1, a2, a3, -⟩ := hO3.1.1.dk
    have hcl := (h1.1.2.1.2 _ hcb.1 hcb.2).1.1
    have hcb2 : A (s.1 16) < nxt c := by have := (h1.1.2.1.2 _ hcb.1 hcb.2).2.1; omega
    have hEc := hE (s.1 16) hcb.2
    have k3 : ∀ a, a < nxt c → kl c3 a = kl c a := fun a ha => by
      rw [hx3.k (by have := hx1.n; have := hx2.n; omega), hx2.k (by have := hx1.n; omega), hx1.k ha]
    have n3 : nxt c ≤ nxt c3 := by have := hx1.n; have := hx2.n; have := hx3.n; omega
    have kc3 : kl c3 (A' (s.1 16)) = 5 := by rw [hEc, k3 _ hcb2]; exact hcl
    have kcur : ky (A' (s.1 16)) (kl c3 (A' (s.1 16))) = 5 := by
      have := (h1.1.2.1.2 _ hcb.1 hcb.2).2.2
      rw [ky5 (by rw [hEc]; exact this), kc3]
    generalize hc4 : uR c3 (A' (s.1 16)) 12 (A' (s.1 8)) = c4
    have hx4 : CX [(5, 12)] [] c3 c4 := by
      rw [← hc4]
      refine CX.rf.uR (fun hlt => ?_)
      rw [kcur]; decide
    have hr4 : RMk 0 0 c3 c4 := by rw [← hc4]; exact RMk.rf
    have hO4 := op_x hO3 hx4 (by decide) (by decide) (by decide) (by decide) ⟨by decide, by decide, by decide, by decide⟩ ⟨by decide, by decide, by decide, by decide⟩
    have hO5 := op_cur (y := s.1 8) hO4
    have hx5 : CX [(8, 2)] [] c4 (uR c4 70 2 (A' (s.1 8))) := CX.rf.uR (fun _ => by rw [hO4.1.1.dk.2.1]; decide)
    have hr5 : RMk 0 0 c4 (uR c4 70 2 (A' (s.1 8))) := RMk.rf
    have hcur5 : fR (uR c4 70 2 (A' (s.1 8))) 70 2 = A' (s.1 8) := by rw [fR_uR, if_pos ⟨rfl, rfl⟩]
    generalize hc5 : uR c4 70 2 (A' (s.1 8)) = c5 at hO5 hx5 hr5 hcur5
    rw [a3, hc5]
    have h9o : ∀ x, x < s.1 8 → (filV s st).2 9 x = s.2 9 x := fun x hx => (vo x hx).1
    have mem : ∀ x, x ∈ fl (filT s t u) → x ∈ fl t ∨ (s.1 8 ≤ x ∧ x < s.1 8 + (fl u.1).length) := fun x hx => by
      rcases mem_rpT hS hT.2.2 hx with q | q
      · exact Or.inl q
      · have := rlb_at b2.1 q
        right
        omega
    have ndi : ∀ (a b : Nat) (z : Int), (fl u.1)[a]? = some z → (fl u.1)[b]? = some z → a = b := fun a b z ha hb => by
      obtain ⟨a1, a2⟩ := List.getElem?_eq_some_iff.mp ha
      obtain ⟨b1, b2'⟩ := List.getElem?_eq_some_iff.mp hb
      exact (List.getElem_inj b2.2.2.1).mp (a2.trans b2'.symm)
    obtain ⟨r0, hr0⟩ := fl_hd _ b2.1
    have hd0 : (fl u.1)[0]? = some (hd u.1) := by rw [hr0]; rfl
    refine ⟨kc3, a1, a2, settled_ok hO5 hcur5 hAf (KIs_q (KIs_q hK hFB.2.1 (by decide) (by decide)) (eqx_us (replU_e (s := st) (o := s.1 16) (c := s.1 8) |>.up (ys' := [15, 16]) (fun y hy => by simp at hy ⊢; omega) (fun y hy => hy)) (y := 16) (z := s.1 8) (by decide)) (by decide) (by decide)) (fun x hx => ?_) (fun x i hx i0 i1 => ?_) (by omega) (fun e g1 g2 g3 => ?_)⟩
    · rcases mem x hx with q | q
      · exact Or.inl (Or.inl q)
      · by_cases w : x = s.1 8
        · exact Or.inr w
        · exact Or.inl (Or.inr ⟨by omega, q.2⟩)
    · have i1 : i < pO ((filV s st).2 9 x) := i1
      rcases mem x hx with q | q
      · rw [h9o x (hS.m _ q).2] at i1
        exact Or.inl (Or.inl ⟨q, i0, i1⟩)
      · left; right
        have hk : (x - s.1 8).toNat < (fl u.1).length := by omega
        have hx0 := List.getElem?_eq_getElem hk
        generalize (fl u.1)[(x - s.1 8).toNat] = x0 at hx0
        have g := (vn _ _ hx0).1
        rw [show s.1 8 + (((x - s.1 8).toNat : Nat) : Int) = x by omega] at g
        rw [g] at i1
        have hx0m := List.mem_of_getElem? hx0
        have fll : x0 = hd u.1 → i < na u.1 := fun w => by
          have := b2.2.1
          unfold full at this
          rw [this, ← w]; exact i1
        obtain ⟨m1, m2, m3⟩ := (AT_mem u.1 b2.1 x0 hx0m).2.2.1 i i0 i1 fll
        have m4 := AT_kid u.1 b2.1 b2.2.2.1 x0 i hx0m i0 i1 fll
        obtain ⟨j, hj1, hj2⟩ := List.mem_iff_getElem.mp m1
        have hj : (fl u.1)[j]? = some (u.2.2 14 (3 * x0 + i)) := by rw [List.getElem?_eq_getElem hj1, hj2]
        have hj0 : 0 < j := by
          rcases Nat.eq_zero_or_pos j with w | w
          · rw [w, hd0] at hj
            injection hj with hj
            exact absurd hj.symm m4
          · exact w
        exact ⟨j, _, (x - s.1 8).toNat, hj0, hj1, hj, by rw [m2]; exact hx0, by omega, m3.symm⟩
    · have hBv : 0 ≤ s.1 8 ∧ s.1 8 < (filV s st).1 8 := by omega
      obtain ⟨n1, n4⟩ := ans_b g1 hBv
      refine ⟨n1, ?_⟩
      rw [n4]
      have nc1 : nxt c1 = nxt c := by have := hx1.n; have := hr1.1; omega
      have n2 : nxt c1 ≤ nxt c2 := hx2.n
      have n23 : nxt c2 ≤ nxt c3 := hx3.n
      have n34 : nxt c3 ≤ nxt c4 := hx4.n
      have n45 : nxt c4 ≤ nxt c5 := hx5.n
      have ca2 : CX unY acR c2 e := (hx3.up (ys' := unY) (rs' := acR) (by decide) (by decide)).tr ((hx4.up (by decide) (fun _ w => by cases w)).tr ((hx5.up (by decide) (fun _ w => by cases w)).tr (g2.up (by decide) (by decide))))
      have ca1 : CX unY acR c1 c2 := hx2.up (by decide) (by decide)
      have ca0 : CX unY acR c c1 := hx1.up (by decide) snR_ac
      refine H0 u f0 hSp e ⟨A', st, g1, hFB, hE, ca0.tr (ca1.tr ca2), ((((((hr1.tr hr2).tr hr3).tr hr4).tr hr5).tr g3)).up (by omega) (by omega), ?_, ?_, ?_, ?_, fun a ha hne hka => ?_⟩
      · exact hK1.x hO1.1.1 hE hB.1 (kp_push hKP hT) ((hx2.up (ys' := (5, 12) :: (8, 2) :: (biY ++ sys)) (rs' := 1103 :: srs) (by decide) (by decide)).tr ((hx3.up (by decide) (by decide)).tr ((hx4.up (by decide) (fun _ w => by cases w)).tr ((hx5.up (by decide) (fun _ w => by cases w)).tr (g2.up (by decide) (by decide)))))) (by decide) (by decide)
      · rw [nc1] at hW2
        have w3 := hW2.x h353 hx3 hr3 (by decide)
        have w4 : NWc (nxt c) c4 := fun a a1' a2' a3' => by
          rw [← hc4] at a2' a3' ⊢
          rw [fR_uR, if_neg (fun w => by rw [hEc] at w; omega), fI_uR]
          exact w3 a a1' a2' a3'
        exact (w4.x h353 hx5 hr5 (by decide)).x h353 g2 g3 (by decide)
      · have k1 := hO1.1.1.dk.1
        have k2 := hO2.1.1.dk.1
        have k4 := hO4.1.1.dk.1
        have k5 := hO5.1.1.dk.1
        rw [g2.i (a := 64) (by omega) (by rw [k5]; decide), hx5.i (a := 64) (by omega) (by rw [k4]; decide), hx4.i (a := 64) (by omega) (by rw [a1]; decide), hx3.i (a := 64) (by omega) (by rw [k2]; decide), hx2.i (a := 64) (by omega) (by rw [k1]; decide), hx1.i (a := 64) (by omega) (by rw [d1]; decide)]
      · rw [g2.r (by omega) (by simp [sys]), hx5.r (by omega) (by simp), ← hc4, hEc, fR_uR, if_pos ⟨rfl, rfl⟩]
      · rw [g2.r (by omega) (by simp [sys]), hx5.r (by omega) (by simp), ← hc4, hEc, fR_uR, if_neg (fun w => hne w.2), hx3.r (by omega) (by simp [lys]), hx2.r (by omega) (by simp [biY, lys]), hx1.r (by omega) (by simp [kys])]
end
