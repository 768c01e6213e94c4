/-! The shelf of the desk; shelve(). -/
/-- a copy -/
def CPc (c : SC) (a : Nat) (u : Snap) : Prop := fI c a 5 = (fl u.1).length ∧ ∀ (k : Nat) (x : Int), (fl u.1)[k]? = some x → (aI c (a + 1) k = u.2.2 9 x ∧ aI c (a + 2) k = u.2.2 10 x ∧ aI c (a + 3) k = u.2.2 11 x) ∧ (0 < k → (∃ j : Nat, j < k ∧ aI c (a + 4) k = j ∧ (fl u.1)[j]? = some (u.2.2 12 x)) ∧ aI c (a + 5) k = u.2.2 13 x)
def SHc (c : SC) (Sh : Int → Option Snap) : Prop := ∀ p : Nat, p < 6 → (Sh p = none → fI c (199 + 6 * p) 5 = 0) ∧ ∀ u, Sh p = some u → CPc c (199 + 6 * p) u
/-- a node stands behind the one that it is a part of -/
theorem AT_bef {so pa up pl : Int → Int} {B : Int} : ∀ (u : Term), AT so pa up pl B u → (fl u).Nodup → ∀ (k : Nat) (x : Int), (fl u)[k]? = some x → x ≠ hd u → ∃ j : Nat, j < k ∧ (fl u)[j]? = some (up x) := by
  intro u
  induction u with
  | index b =>
    intro _ _ k x hk hx
    have hm := List.mem_of_getElem? hk
    exact absurd (List.mem_singleton.mp hm) hx
  | add t y ih ihy =>
    intro h hnd k x hk hx
    obtain ⟨h1, h2, h3, h4, h5, h6, h7⟩ := h
    obtain ⟨d1, d2, d3⟩ := List.nodup_append.mp hnd
    have e : fl (Term.add t y) = fl t ++ fl y := rfl
    rw [e] at hk ⊢
    by_cases hl : k < (fl t).length
    · rw [List.getElem?_append_left hl] at hk
      obtain ⟨j, j1, j2⟩ := ih h1 d1 k x hk hx
      exact ⟨j, j1, by rw [List.getElem?_append_left (by omega)]; exact j2⟩
    · rw [List.getElem?_append_right (by omega)] at hk
      by_cases hy : x = hd y
      · obtain ⟨r, hr⟩ := fl_hd t h1
        refine ⟨0, ?_, ?_⟩
        · have : 0 < (fl t).length := by rw [hr]; simp
          omega
        · rw [hy, h6, hr]; rfl
      · obtain ⟨j, j1, j2⟩ := ihy h2 d2 _ x hk hy
        exact ⟨(fl t).length + j, by omega, by rw [List.getElem?_append_right (by omega), Nat.add_sub_cancel_left]; exact j2⟩
  | _ => intro h; exact h.elim
section
variable {iv : List (Int × Int)} {L : Nat} {h0 : MH} {A A' : Int → Nat} {c e : SC} {s s' w : SM} {t : Term} {d : Nat} {P : Int → Prop} {Q : Int → Int → Prop} {K : List Snap}
theorem CPc.up {a : Nat} {u : Snap} (h : CPc c a u) (h1 : fI e a 5 = fI c a 5) (h2 : ∀ j, j < 5 → aI e (a + (j + 1)) = aI c (a + (j + 1))) : CPc e a u := by
  unfold CPc
  rw [h1, h2 0 (by decide), h2 1 (by decide), h2 2 (by decide), h2 3 (by decide), h2 4 (by decide)]
  exact h
theorem SHc.x {ys : List (Nat × Nat)} {rs : List Nat} {Sh : Int → Option Snap} (h : SHc c Sh) (hX : FIX c) (hx : CX ys rs c e) (hy : (2, 5) ∉ ys) (hr : ∀ a, a ∈ rs → a < 199 ∨ 353 ≤ a) : SHc e Sh := fun p hp => by
  obtain ⟨g1, g2⟩ := h p hp
  have h3 := hX.2.2.1
  obtain ⟨o1, o2, -⟩ := hX.2.1.2 p hp
  have hky : ky (199 + 6 * p) (kl c (199 + 6 * p)) = 2 := by rw [o2]; unfold ky; rw [if_neg (by omega)]
  have e5 : fI e (199 + 6 * p) 5 = fI c (199 + 6 * p) 5 := hx.i (by omega) (by rw [hky]; exact hy)
  refine ⟨fun q => by rw [e5]; exact g1 q, fun u hu => (g2 u hu).up e5 (fun j hj => hx.ai (by omega) (fun q => ?_))⟩
  unfold rk at q
  rw [if_pos (by omega)] at q
  have := hr _ q
  omega
theorem copyOf_ok {p : Nat} {x0 : Int} {F : SC → Prop} (hp : p < 6) (h1 : R1 A c s t) (hS : SHT s t) (hx : x0 ∈ fl t) (hF : ∀ e, SMR [] [200 + 6 * p, 201 + 6 * p, 202 + 6 * p, 203 + 6 * p, 204 + 6 * p] (uI c (199 + 6 * p) 5 (fl (sq x0 t)).length) e → CPc e (199 + 6 * p) (sq x0 t, s) → F e) : ck iv L h0 (d + 2) 160 [vr (199 + 6 * p), vr 70, vr (A x0)] c (qv F) := by
  obtain ⟨a, z, r, e1, e2, e3⟩ := seq_at hS hx
  obtain ⟨⟨n1, n2, n3, n4, n5, n6, n7, n8⟩, n9, n10⟩ := h1.1.2.1.2 x0 (hS.m _ hx).1 (hS.m _ hx).2
  have rx : fI c (A x0) 7 = a.length := rank_at h1.1.2.2.2 (m := r ++ z) (by rw [e1, e2]; rfl)
  have hl := hS.2.2.2.1
  have hsz := h1.1.2.2.2.1
  have hlen : (fl t).length = a.length + ((fl (sq x0 t)).length + z.length) := by rw [e1]; simp
  obtain ⟨b1, b2, b3, b4, b5, b6, b7⟩ := sq_ok hS.1 hS.2.1 hS.2.2.1 hx
  obtain ⟨o1, o2, ⟨o3, o4, o5, o6, o7⟩, ⟨o8, o9, o10, o11, o12⟩, o13, o14, o15, o16, o17⟩ := h1.1.1.2.1.2 p hp
  have hky : ky (199 + 6 * p) (kl c (199 + 6 * p)) = 2 := by rw [o2]; unfold ky; rw [if_neg (by omega)]
  obtain ⟨k1, k2, k3, k4⟩ := h1.1.1.or
  generalize hc0 : uI c (199 + 6 * p) 5 (fl (sq x0 t)).length = c0 at hF
  have hx0 : CX [(2, 5)] [] c c0 := by rw [← hc0]; exact CX.rf.uI (fun _ => by rw [hky]; decide)
  have hX0 : FIX c0 := h1.1.1.x hx0 (by decide) (by decide)
  have key : ∀ (m q : List Int) (f : SC), fl (sq x0 t) = q ++ m → SMR [] [200 + 6 * p, 201 + 6 * p, 202 + 6 * p, 203 + 6 * p, 204 + 6 * p] c0 f → (∀ (k : Nat) (x : Int), q[k]? = some x → (aI f (200 + 6 * p) k = s.2 9 x ∧ aI f (201 + 6 * p) k = s.2 10 x ∧ aI f (202 + 6 * p) k = s.2 11 x) ∧ (0 < k → (∃ j : Nat, j < k ∧ aI f (203 + 6 * p) k = j ∧ (fl (sq x0 t))[j]? = some (s.2 12 x)) ∧ aI f (204 + 6 * p) k = s.2 13 x)) → wk iv L h0 (d + 2) 160 11 [lr (199 + 6 * p), lr 70, lr (A x0), li q.length] [] f (qv F) := by
    intro m
    induction m with
    | nil =>
      intro q f hq hf hj
      have e5 : fI f (199 + 6 * p) 5 = (fl (sq x0 t)).length := by rw [(hf.1 _ _).1, ← hc0, fI_uI, if_pos ⟨rfl, rfl⟩]
      have ekl : kl f (199 + 6 * p) = 2 := by rw [(hf.2.1 _).1, ← hc0]; exact o2
      rw [List.append_nil] at hq
      refine C160_11 ⟨ekl, fun _ => hF f hf ⟨e5, fun k x hk => ?_⟩, fun w => ?_⟩
      · have hk : (fl (sq x0 t))[k]? = some x := hk
        rw [show 199 + 6 * p + 1 = 200 + 6 * p by omega, show 199 + 6 * p + 2 = 201 + 6 * p by omega, show 199 + 6 * p + 3 = 202 + 6 * p by omega, show 199 + 6 * p + 4 = 203 + 6 * p by omega, show 199 + 6 * p + 5 = 204 + 6 * p by omega]
        exact hj k x (by rw [← hq]; exact hk)
      · rw [e5, hq] at w; omega
    | cons x m ih =>
      intro q f hq hf hj
      have e5 : fI f (199 + 6 * p) 5 = (fl (sq x0 t)).length := by rw [(hf.1 _ _).1, ← hc0, fI_uI, if_pos ⟨rfl, rfl⟩]
      have ekl : ∀ b, kl f b = kl c b := fun b => by rw [(hf.2.1 _).1, ← hc0, kl_uI]
      have ele : ∀ b, le f b = le c b := fun b => by rw [(hf.2.1 _).2, ← hc0, le_uI]
      have efR : ∀ b y, fR f b y = fR c b y := fun b y => by rw [(hf.1 _ _).2, ← hc0, fR_uI]
      have efI : ∀ b y, y ≠ 5 → fI f b y = fI c b y := fun b y hy => by rw [(hf.1 _ _).1, ← hc0, fI_uI, if_neg (fun w => hy w.1)]
      have e71 : ∀ k, aR f 71 k = aR c 71 k := fun k => by rw [hf.2.2.2.2 71 (by simp), ← hc0, aR_uI]
      obtain ⟨w1, w2, w3, w4, w5, w6, w7, w8⟩ := R1.ord (x := x) (p := a ++ q) (m := m ++ z) h1.1 hS (by rw [e1, hq]; simp)
      rw [List.length_append] at w2 w4 w5
      push_cast at w4 w5
      have hxs : x ∈ fl (sq x0 t) := by rw [hq]; simp
      have hql : (fl (sq x0 t)).length = q.length + (m.length + 1) := by rw [hq]; simp
      have hgx : (fl (sq x0 t))[q.length]? = some x := by rw [hq]; simp
      have hk11 : fI c (A x) 2 = s.2 11 x := (h1.1.2.1.2 x (hS.m _ w1).1 (hS.m _ w1).2).1.2.2.2.2.2.1
      obtain ⟨g1, g2, g3⟩ := h1.1.2.2.1.1 x w1
      refine C160_11 ⟨by rw [ekl]; exact o2, fun v => by rw [e5] at v; omega, fun _ => ?_⟩
      simp only [ekl, ele, efR, k2, e71]
      rw [efI _ _ (by decide), rx, k1, n1, k3, k4, o3, o4, o5, o6, o7, o8, o9, o10, o11, o12, o13, o14, o15, o16, o17, w4, w6, g1]
      refine ⟨rfl, rfl, by omega, rfl, by omega, rfl, rfl, by omega, rfl, by omega, rfl, by omega, fun hq0 => ?_, fun hq0 => ⟨rfl, by omega, rfl, by omega, by omega, ?_⟩⟩
      · -- behind the first
        have hxn : x ≠ hd (sq x0 t) := fun w => by
          have hq1 : 0 < q.length := by omega
          obtain ⟨r2, hr2⟩ := fl_hd _ b1
          have h00 : (fl (sq x0 t))[0]? = some (hd (sq x0 t)) := by rw [hr2]; rfl
          obtain ⟨j1, j2⟩ := List.getElem?_eq_some_iff.mp hgx
          obtain ⟨k1', k2'⟩ := List.getElem?_eq_some_iff.mp h00
          have : q.length = 0 := (List.getElem_inj b5).mp (j2.trans (w.trans k2'.symm))
          omega
        obtain ⟨j, j1, j2⟩ := AT_bef _ b1 b5 _ _ hgx hxn
        have hus := List.mem_of_getElem? j2
        have hut := b4 _ hus
        have hku := (h1.1.2.1.2 _ (hS.m _ hut).1 (hS.m _ hut).2).1.1
        have hru : fI c (A (s.2 12 x)) 7 = (a.length : Int) + j := by
          have := (h1.1.2.2.2.2 (a.length + j) (s.2 12 x) (by rw [e1, List.getElem?_append_right (by omega), Nat.add_sub_cancel_left, List.getElem?_append_left (by omega)]; exact j2)).2
          rw [this]; push_cast; rfl
        rw [hku, efI _ _ (by decide), hru]
        refine ⟨rfl, by omega, rfl, by omega, rfl, by omega, by omega, ?_⟩
        have hxt : x ≠ hd t := fun w => by
          have hu9 := (AT_mem _ b1 x hxs).2.2.2 hxn
          have := (AT_mem _ b1 _ hu9.1).1
          rw [w] at this
          have h9 := hS.2.2.2.2.2.2.1
          omega
        generalize hE : uA (uA (uA (uA (uA f (200 + 6 * p) (q.length : Int) (fI f (A x) 1)) (201 + 6 * p) (q.length : Int) (fI f (A x) 4)) (202 + 6 * p) (q.length : Int) (fI f (A x) 2)) (203 + 6 * p) (q.length : Int) ((a.length : Int) + j - a.length)) (204 + 6 * p) (q.length : Int) (fI f (A x) 6) = g
        have hg : SMR [] [200 + 6 * p, 201 + 6 * p, 202 + 6 * p, 203 + 6 * p, 204 + 6 * p] c0 g := by
          rw [← hE]
          exact ((((hf.uA (by simp)).uA (by simp)).uA (by simp)).uA (by simp)).uA (by simp)
        have r1 : ∀ k : Int, k ≠ q.length → ∀ b, aI g b k = aI f b k := fun k hk b => by
          rw [← hE, aI_uA, if_neg (fun w => hk w.2), aI_uA, if_neg (fun w => hk w.2), aI_uA, if_neg (fun w => hk w.2), aI_uA, if_neg (fun w => hk w.2), aI_uA, if_neg (fun w => hk w.2)]
        have v1 : aI g (200 + 6 * p) (q.length : Int) = s.2 9 x := by
          rw [← hE, aI_uA, if_neg (by omega), aI_uA, if_neg (by omega), aI_uA, if_neg (by omega), aI_uA, if_neg (by omega), aI_uA, if_pos ⟨rfl, rfl⟩, efI _ _ (by decide)]; exact w7
        have v2 : aI g (201 + 6 * p) (q.length : Int) = s.2 10 x := by
          rw [← hE, aI_uA, if_neg (by omega), aI_uA, if_neg (by omega), aI_uA, if_neg (by omega), aI_uA, if_pos ⟨rfl, rfl⟩, efI _ _ (by decide)]; exact w8
        have v3 : aI g (202 + 6 * p) (q.length : Int) = s.2 11 x := by
          rw [← hE, aI_uA, if_neg (by omega), aI_uA, if_neg (by omega), aI_uA, if_pos ⟨rfl, rfl⟩, efI _ _ (by decide)]; exact hk11
        have v4 : aI g (203 + 6 * p) (q.length : Int) = j := by
          rw [← hE, aI_uA, if_neg (by omega), aI_uA, if_pos ⟨rfl, rfl⟩]; omega
        have v5 : aI g (204 + 6 * p) (q.length : Int) = s.2 13 x := by
          rw [← hE, aI_uA, if_pos ⟨rfl, rfl⟩, efI _ _ (by decide)]; exact g2 hxt
        have := ih (q ++ [x]) g (by rw [hq]; simp) hg (fun k y hy => ?_)
        · rw [List.length_append] at this
          simp only [List.length_cons, List.length_nil] at this
          push_cast at this
          exact this
        · by_cases hkl : k < q.length
          · rw [List.getElem?_append_left hkl] at hy
            rw [r1 k (by omega), r1 k (by omega), r1 k (by omega), r1 k (by omega), r1 k (by omega)]
            exact hj k y hy
          · rw [List.getElem?_append_right (by omega)] at hy
            have hk0 : k - q.length = 0 := by
              cases hq : k - q.length with
              | zero => rfl
              | succ z => rw [hq] at hy; simp at hy
            rw [hk0] at hy
            simp at hy
            subst hy
            have hkq : k = q.length := by omega
            subst hkq
            exact ⟨⟨v1, v2, v3⟩, fun _ => ⟨⟨j, j1, v4, j2⟩, v5⟩⟩
      · have hq0' : q = [] := by
          cases q with
          | nil => rfl
          | cons y q => simp at hq0; omega
        subst hq0'
        generalize hE : uA (uA (uA (uA (uA f (200 + 6 * p) ((([] : List Int).length : Nat) : Int) (fI f (A x) 1)) (201 + 6 * p) ((([] : List Int).length : Nat) : Int) (fI f (A x) 4)) (202 + 6 * p) ((([] : List Int).length : Nat) : Int) (fI f (A x) 2)) (203 + 6 * p) ((([] : List Int).length : Nat) : Int) (-9)) (204 + 6 * p) ((([] : List Int).length : Nat) : Int) (fI f (A x) 6) = g
        have hg : SMR [] [200 + 6 * p, 201 + 6 * p, 202 + 6 * p, 203 + 6 * p, 204 + 6 * p] c0 g := by
          rw [← hE]
          exact ((((hf.uA (by simp)).uA (by simp)).uA (by simp)).uA (by simp)).uA (by simp)
        have v1 : aI g (200 + 6 * p) 0 = s.2 9 x := by
          rw [← hE, aI_uA, if_neg (by omega), aI_uA, if_neg (by omega), aI_uA, if_neg (by omega), aI_uA, if_neg (by omega), aI_uA, if_pos ⟨rfl, rfl⟩, efI _ _ (by decide)]; exact w7
        have v2 : aI g (201 + 6 * p) 0 = s.2 10 x := by
          rw [← hE, aI_uA, if_neg (by omega), aI_uA, if_neg (by omega), aI_uA, if_neg (by omega), aI_uA, if_pos ⟨rfl, rfl⟩, efI _ _ (by decide)]; exact w8
        have v3 : aI g (202 + 6 * p) 0 = s.2 11 x := by
          rw [← hE, aI_uA, if_neg (by omega), aI_uA, if_neg (by omega), aI_uA, if_pos ⟨rfl, rfl⟩, efI _ _ (by decide)]; exact hk11
        refine ih [x] g hq hg (fun k y hy => ?_)
        cases k with
        | zero =>
          simp at hy
          subst hy
          exact ⟨⟨v1, v2, v3⟩, fun w => by omega⟩
        | succ k => simp at hy
  refine C160 ⟨k1, sizeAt_c (d := d) h1 hS hx ⟨o2, ?_⟩⟩
  rw [hc0]
  exact key (fl (sq x0 t)) [] c0 rfl SMR.rf (fun k x hk => by simp at hk)
def shY : List (Nat × Nat) := [(2, 5)]
def shR : List Nat := [200, 201, 202, 203, 204, 206, 207, 208, 209, 210, 212, 213, 214, 215, 216, 218, 219, 220, 221, 222, 224, 225, 226, 227, 228, 230, 231, 232, 233, 234]
theorem shR_mem {p j : Nat} (hp : p < 6) (hj : j < 5) : 200 + 6 * p + j ∈ shR := by
  have h1 : (List.range 6).all (fun i => (List.range 5).all (fun j => decide (200 + 6 * i + j ∈ shR))) = true := by decide +kernel
  exact of_decide_eq_true (List.all_eq_true.mp (List.all_eq_true.mp h1 p (List.mem_range.mpr hp)) j (List.mem_range.mpr hj))
theorem shelve_c {p : Int} {F : Int → SC → Prop} {Sh : Int → Option Snap} (h1 : R1 A c s t) (hT : AFT s t) (hSh : SHc c Sh) (hD : 100 ≤ d) (H1 : ¬ (0 ≤ p ∧ p < 6) → F (-1) c) (H2 : (0 ≤ p ∧ p < 6) → ∀ e, SHc e (shP Sh p (sq (s.1 16) t, s)) → CX shY shR c e → RMk 0 0 c e → F (fl (sq (s.1 16) t)).length e) : ck iv L h0 d 19 [vr 64, vi p] c (qi F) := by
  obtain ⟨d, rfl⟩ : ∃ k, d = k + 1 + 2 := ⟨d - 3, by omega⟩
  obtain ⟨⟨d1, d2, d3, d4, d5⟩, e1, e2, e3, e4, e5, e6⟩ := h1.cur hT
  have hk : fR c 64 6 = 193 ∧ kl c 193 = 105 ∧ le c 193 = 6 := by simp only [h1.1.1.1]; exact ⟨trivial, trivial, trivial⟩
  refine C19 (C41 ⟨fun q => ⟨fun w => absurd rfl w, fun _ => H1 (by omega)⟩, fun q => ⟨fun q2 => ⟨fun w => absurd rfl w, fun _ => H1 (by omega)⟩, fun q2 => ⟨fun _ => ?_, fun w => absurd w (by decide)⟩⟩⟩)
  obtain ⟨i, rfl⟩ : ∃ i : Nat, p = i := ⟨p.toNat, by omega⟩
  have hi : i < 6 := by omega
  obtain ⟨o1, o2, -⟩ := h1.1.1.2.1.2 i hi
  have h353 := h1.1.1.2.2.1
  rw [hk.1, hk.2.1, hk.2.2, o1, o2, d3, e1]
  refine ⟨d1, rfl, by omega, d2, rfl, copyOf_ok (d := d) hi h1 hT.1 hT.2.2 (fun e he hC => ?_)⟩
  have hky : ky (199 + 6 * i) (kl c (199 + 6 * i)) = 2 := by rw [o2]; unfold ky; rw [if_neg (by omega)]
  have hx0 : CX shY shR c (uI c (199 + 6 * i) 5 (fl (sq (s.1 16) t)).length) := CX.rf.uI (fun _ => by rw [hky]; decide)
  have hx : CX shY shR c e := he.cx hx0 (fun a ha => by
    have ha : a = 200 + 6 * i ∨ a = 201 + 6 * i ∨ a = 202 + 6 * i ∨ a = 203 + 6 * i ∨ a = 204 + 6 * i := by simp at ha; omega
    refine ⟨by omega, ?_⟩
    rcases ha with rfl | rfl | rfl | rfl | rfl
    · exact shR_mem hi (j := 0) (by decide)
    · have := shR_mem hi (j := 1) (by decide); rwa [show 200 + 6 * i + 1 = 201 + 6 * i by omega] at this
    · have := shR_mem hi (j := 2) (by decide); rwa [show 200 + 6 * i + 2 = 202 + 6 * i by omega] at this
    · have := shR_mem hi (j := 3) (by decide); rwa [show 200 + 6 * i + 3 = 203 + 6 * i by omega] at this
    · have := shR_mem hi (j := 4) (by decide); rwa [show 200 + 6 * i + 4 = 204 + 6 * i by omega] at this)
  have hXe := h1.1.1.x hx (by decide) (by decide)
  have hke : kl e 64 = 1 ∧ fR e 64 6 = 193 ∧ kl e 193 = 105 ∧ le e 193 = 6 := by simp only [hXe.1]; exact ⟨trivial, trivial, trivial, trivial⟩
  obtain ⟨p1, p2, -⟩ := hXe.2.1.2 i hi
  rw [hke.1, hke.2.1, hke.2.2.1, hke.2.2.2, p1, p2, hC.1]
  refine ⟨rfl, rfl, by omega, rfl, H2 ⟨by omega, by omega⟩ e (fun z hz => ?_) hx ⟨by rw [he.2.2.1.1]; exact Nat.le_refl _, by rw [he.2.2.1.2]; exact Nat.le_refl _⟩⟩
  by_cases hqi : z = i
  · subst hqi
    have : shP Sh (z : Int) (sq (s.1 16) t, s) (z : Int) = some (sq (s.1 16) t, s) := if_pos rfl
    rw [this]
    exact ⟨(fun w => by cases w), (fun u hu => by cases hu; exact hC)⟩
  · have : shP Sh (i : Int) (sq (s.1 16) t, s) (z : Int) = Sh z := if_neg (by omega)
    rw [this]
    obtain ⟨g1, g2⟩ := hSh z hz
    have f5 : fI e (199 + 6 * z) 5 = fI c (199 + 6 * z) 5 := by rw [(he.1 _ _).1, fI_uI, if_neg (by omega)]
    refine ⟨fun w => by rw [f5]; exact g1 w, fun u hu => (g2 u hu).up f5 (fun j hj => ?_)⟩
    rw [he.2.2.2.1 _ (by simp; omega), aI_uI]
end
