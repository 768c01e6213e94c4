/-! What the reference holds between calls: behind undo, work, resume, fill. -/
theorem VG_cg2 {s w : SM} {t t' : Term} {g g' : Int → Int} (h8 : s.1 8 ≤ w.1 8) (hm : ∀ x, x ∈ fl t → s.2 9 x ≠ 0 → x ∈ fl t' ∧ w.2 9 x = s.2 9 x ∧ ∀ E, cov s x E → cov w x E) (hg : ∀ b, g b ∈ fl t → 0 ≤ b → b < s.1 8 → g' b ∈ fl t' ∧ (∀ E, cov s (g b) E → cov w (g' b) E) ∧ (g' b = b → g b = b ∧ w.2 9 b = s.2 9 b)) : ∀ (n : Nat) (V : Term), SizeOf.sizeOf V < n → VG s t g V → VG w t' g' V := by
  intro n
  induction n with
  | zero => intro V h; omega
  | succ n ih =>
    intro V hn h
    cases V with
    | sub d E =>
      cases d with
      | index d =>
        obtain ⟨⟨h1, h2⟩, h3, h4, h5⟩ := h
        obtain ⟨m1, m2, m3⟩ := hm _ h1 (by omega)
        exact ⟨⟨m1, m2.trans h2⟩, m3 E h3, h4, ih E (by simp at hn; omega) h5⟩
      | _ => exact h.elim
    | add A B => exact ⟨⟨h.1.1, ih A (by simp at hn; omega) h.1.2⟩, h.2.1, ih B (by simp at hn; omega) h.2.2⟩
    | div d E =>
      cases d with
      | index b =>
        obtain ⟨⟨h1, h2, h3⟩, h4, h5, h6⟩ := h
        obtain ⟨m1, m2, m3⟩ := hg b h2 (by omega) h1
        exact ⟨⟨by omega, m1, fun q => by obtain ⟨q1, q2⟩ := m3 q; rw [q2]; exact h3 q1⟩, m2 E h4, h5, ih E (by simp at hn; omega) h6⟩
      | _ => exact h.elim
    | length A => exact ⟨h.1, ih A (by simp at hn; omega) h.2⟩
    | rem b q =>
      cases b with
      | index b =>
        cases q with
        | elem A q =>
          cases q with
          | elem B E =>
            obtain ⟨⟨b1, a1, a2⟩, hc⟩ := h
            obtain ⟨m1, m2, m3⟩ := hm _ b1 (by omega)
            refine ⟨⟨m1, a1, ih A (by simp at hn; omega) a2⟩, ?_⟩
            rw [m2]
            rcases hc with ⟨c1, c2, c3, c4⟩ | ⟨c1, c2, c3, c4, c5⟩ | c
            · exact Or.inl ⟨c1, c2, ih B (by simp at hn; omega) c3, c4⟩
            · exact Or.inr (Or.inl ⟨c1, c2, c3, m3 E c4, ih E (by simp at hn; omega) c5⟩)
            · exact Or.inr (Or.inr c)
          | _ => exact h.elim
        | _ => exact h.elim
      | _ => exact h.elim
    | mul r x =>
      have h : VG s t g r ∧ (x = .null ∨ (isV x = true ∧ VG s t g x)) := h
      exact ⟨ih r (by simp at hn; omega) h.1, h.2.imp id (fun q => ⟨q.1, ih x (by simp at hn; omega) q.2⟩)⟩
    | int z => trivial
    | arg z => exact h
    | index z => exact h
    | null => trivial
    | _ => exact h.elim
section
variable {s w v : SM} {t t' : Term} {n p : Int} {K K0 K' : List Snap} {Sh : Int → Option Snap} {V : Term} {W : List (Int × Int)} {ey ef : List Nat} {u e : Snap} {R : RS}
theorem MS_und (h : MS n s t K Sh V W) (hK : K = K0 ++ [u]) (hx : SX [24] [12, 13, 14] (undU s u) v) (hT : SHT v u.1) (hKL : KL v K0) : MS n v u.1 K0 Sh V W := by
  obtain ⟨⟨a1, a2, a3, a4⟩, ⟨b1, b2⟩, ⟨c1, c2⟩, -⟩ := id h
  have hB := a1.1.2.2.2.2.1
  have hu : u ∈ K := by rw [hK]; simp
  have hP : KP s u := by
    obtain ⟨i, hi, rfl⟩ := List.mem_iff_getElem.mp hu
    exact (c1.2.2 i K[i] (List.getElem?_eq_getElem hi)).2
  have x0 : SX [15, 16, 35] [10] s (undU s u) := ⟨fun y _ hy => by
    show (if y = 15 then hd u.1 else if y = 16 then u.2.1 16 else if y = 35 then 1 else s.1 y) = s.1 y
    simp at hy
    rw [if_neg (by omega), if_neg (by omega), if_neg (by omega)], fun f _ hf i _ => by
    show (if f = 10 ∧ i ∈ fl u.1 then u.2.2 10 i else s.2 f i) = s.2 f i
    simp at hf
    rw [if_neg (fun q => hf q.1)]⟩
  have xv : SX [8, 15, 16, 24, 35] [9, 10, 11, 12, 13, 14, 25, 26, 27, 28, 29] s v := (x0.up (by decide) (by decide)).tr (hx.up (by decide) (by decide))
  have x1 : SX [15, 16, 24, 35] [10, 12, 13, 14] s v := (x0.up (by decide) (by decide)).tr (hx.up (by decide) (by decide))
  have e8 : v.1 8 = s.1 8 := x1.1 8 (by decide) (by decide)
  have h9 : ∀ x, 0 ≤ x → x < s.1 8 → v.2 9 x = s.2 9 x := fun x x0 x1' => x1.nod (Or.inl rfl) (by decide) (by omega)
  have e35 : v.1 35 = 1 := (hx.1 35 (by decide) (by decide)).trans rfl
  refine MS_act h xv (by omega) (undo_aft a1.2.1 hB.2 hP hx hT) ⟨fun x x0' x1' => ?_, fun w hw x hx' => ?_⟩ hKL (by omega)
  · rw [e8] at x1'
    have e10 : v.2 10 x = if x ∈ fl u.1 then u.2.2 10 x else s.2 10 x := by
      rw [hx.nod (f := 10) (Or.inr (Or.inl rfl)) (by decide) (by omega)]
      show (if 10 = 10 ∧ x ∈ fl u.1 then u.2.2 10 x else s.2 10 x) = _
      by_cases q : x ∈ fl u.1
      · rw [if_pos ⟨rfl, q⟩, if_pos q]
      · rw [if_neg (fun z => q z.2), if_neg q]
    rw [h9 x x0' x1', e10, x1.nod (f := 11) (Or.inr (Or.inr (Or.inl rfl))) (by decide) (by omega)]
    by_cases q : x ∈ fl u.1
    · rw [if_pos q]
      exact ⟨a4 u hu x q, (a3 x x0' x1').2⟩
    · rw [if_neg q]
      exact a3 x x0' x1'
  · exact NVK_x a4 c1 h9 w (by rw [hK]; exact List.mem_append_left _ hw) x hx'
theorem MS_wdn {hf : Int} (h : MS n s t K Sh V W) (hw : WDN s t R hf v) (hR : R.2.1 = 0 ∨ 2 ≤ R.2.1) (hj : ∀ x, x ∈ fl t → 0 ≤ (jdg s t).2.2 x) : MS n v t K Sh R.2.2.2 (wrL s t) := by
  obtain ⟨⟨a1, a2, a3, a4⟩, ⟨b1, b2⟩, ⟨c1, c2⟩, ⟨d1, d2⟩, -⟩ := id h
  obtain ⟨hx, ⟨w1, w2, w3, w4, w5⟩, ⟨w6, w7⟩, w8, w9⟩ := hw
  have hB := a1.1.2.2.2.2.1
  have e8 : v.1 8 = s.1 8 := hx.1 8 (by decide) (by decide)
  have h9 : ∀ x, 0 ≤ x → x < s.1 8 → v.2 9 x = s.2 9 x := fun x x0 x1' => hx.nod (Or.inl rfl) (by decide) (by omega)
  have hA : AFT v t := a1.x hx (by decide) (by decide)
  have n9 : ∀ y, y ∈ fl t → v.2 9 y = s.2 9 y := fun y hy => hx.nod (Or.inl rfl) (by decide) (a1.1.lt hy).2.2
  have n10 : ∀ y, y ∈ fl t → v.2 10 y = s.2 10 y := fun y hy => hx.nod (Or.inr (Or.inl rfl)) (by decide) (a1.1.lt hy).2.2
  have hVN : R.2.1 = 0 → VN v t R.2.2.2 := fun g => VG_cg (by omega) (fun x hx' => ⟨hx', n9 x hx', fun E hE => cov_x a1.1 hA.1 n9 n10 hx' hE⟩) (fun b hb _ _ => ⟨hb, fun E hE => cov_x a1.1 hA.1 n9 n10 hb hE, fun _ => ⟨rfl, n9 _ hb⟩⟩) _ _ (Nat.lt_succ_self _) (w9 g).2.2
  have hv0 : hasV v → R.2.1 = 0 := fun hv => by
    unfold hasV at hv
    rw [w5] at hv
    unfold outE at hv
    by_cases g : R.2.1 = 0
    · exact g
    · rw [if_neg g] at hv
      omega
  refine ⟨⟨hA, KIs_x a2 hx (by decide) (by decide), a3.x hx hB.2 (by decide) (by decide), NVK_x a4 c1 h9⟩, ⟨BX_x b1 hx (by decide) (by decide) (by omega), b2.x hx (by decide)⟩, ⟨KL_x c1 hx ⟨hB.2, by omega⟩ h9 (by decide) (by decide), c2.x hx (by decide) (by decide)⟩, ⟨fun b b0 b1' => Or.inl (w6 b b0 (by omega)), fun b b0 b1' => (w7 b (by omega)).trans (d2 b (by omega) b1')⟩, ⟨fun hv => ⟨(w9 (hv0 hv)).1, (w9 (hv0 hv)).2.1, VB_g hA.1 _ _ (Nat.lt_succ_self _) (hVN (hv0 hv))⟩, fun hv _ => ⟨(w9 (hv0 hv)).1, (w9 (hv0 hv)).2.1, ?_, fun y hy _ => ?_⟩⟩, w8, fun p hp => ?_⟩
  · have hv1 := hVN (hv0 hv)
    show VG v t (tgt v t) R.2.2.2
    refine VG_cg (Int.le_refl _) (fun x hx' => ⟨hx', rfl, fun E hE => hE⟩) (fun b hb b0 b1' => ?_) _ _ (Nat.lt_succ_self _) hv1
    have hb : b ∈ fl t := hb
    have e : tgt v t b = b := if_pos hb
    rw [e]
    exact ⟨hb, fun E hE => hE, fun _ => ⟨rfl, rfl⟩⟩
  · have hb := a1.1.lt hy
    show (if 0 < v.2 42 y then fllN (v.2 42) 3003 (v.2 42 y - 1) else y) = y
    rw [w6 y hb.1 hb.2.1, if_neg (by omega)]
  · unfold wrL at hp ⊢
    obtain ⟨x, hx', rfl⟩ := List.mem_map.mp hp
    have hb := a1.1.lt hx'
    have hr := hj x hx'
    exact ⟨thW_map.1 hx', hr, hb.1, by omega⟩
/-- chains of fillers, one more filled -/
theorem fll_fil {fb fv : Int → Int} {o B : Int} (ho : 0 ≤ o ∧ o < B) (h0 : fb o ≤ 0) (hv : ∀ y, fv y = if y = o then B + 1 else fb y) (hB : fb B ≤ 0) (hF : ∀ b, 0 ≤ b → b < B → fb b = 0 ∨ (b < fb b - 1 ∧ fb b - 1 < B)) : ∀ (n : Nat) (b : Int), 0 ≤ b → b < B → B - b + 1 ≤ n → (fllN fb n b ≠ o → fllN fv n b = fllN fb n b) ∧ (fllN fb n b = o → fllN fv n b = B) := by
  intro n
  induction n with
  | zero => intro b b0 b1 hn; omega
  | succ n ih =>
    intro b b0 b1 hn
    show ((if 0 < fb b then fllN fb n (fb b - 1) else b) ≠ o → (if 0 < fv b then fllN fv n (fv b - 1) else b) = (if 0 < fb b then fllN fb n (fb b - 1) else b)) ∧ ((if 0 < fb b then fllN fb n (fb b - 1) else b) = o → (if 0 < fv b then fllN fv n (fv b - 1) else b) = B)
    by_cases q : b = o
    · have e1 : ¬ 0 < fb b := by rw [q]; omega
      have e2 : fv b = B + 1 := by rw [hv, if_pos q]
      rw [if_neg e1, e2, if_pos (by omega)]
      refine ⟨fun w => absurd q w, fun _ => ?_⟩
      rw [show B + 1 - 1 = B by omega]
      cases n with
      | zero => rfl
      | succ n =>
        show (if 0 < fv B then fllN fv n (fv B - 1) else B) = B
        have e3 : fv B = fb B := by rw [hv, if_neg (by omega)]
        rw [e3, if_neg (by omega)]
    · have e2 : fv b = fb b := by rw [hv, if_neg q]
      rw [e2]
      by_cases z : 0 < fb b
      · rw [if_pos z, if_pos z]
        have h2 := (hF b b0 b1).resolve_left (by omega)
        exact ih (fb b - 1) (by omega) h2.2 (by omega)
      · rw [if_neg z, if_neg z]
        exact ⟨fun _ => rfl, fun w => absurd w q⟩
theorem sq_leaf0 (hS : SHT s t) (hc : s.1 16 ∈ fl t) (h0 : s.2 9 (s.1 16) = 0) : fl (sq (s.1 16) t) = [s.1 16] := by
  obtain ⟨b1, b2, b3, -⟩ := sq_ok hS.1 hS.2.1 hS.2.2.1 hc
  unfold full at b2
  rw [b3, h0] at b2
  have hp : pO 0 = 0 := by decide
  rw [hp] at b2
  generalize sq (s.1 16) t = q at *
  cases q with
  | index b =>
    have b3 : (b : Int) = s.1 16 := b3
    show [(b : Int)] = _
    rw [b3]
  | add x y =>
    exfalso
    have : na (.add x y) = na x + 1 := rfl
    have h1 := na_ge x
    omega
  | _ => exact b1.elim
/-- what a filled sheet is made of -/
theorem fil_mem (hS : SHT s t) (hc : s.1 16 ∈ fl t) (h0 : s.2 9 (s.1 16) = 0) (he : AT (e.2.2 9) (e.2.2 14) (e.2.2 12) (e.2.2 13) (e.2.1 8) e.1) (x : Int) : x ∈ fl (filT s t e) ↔ (x ∈ fl t ∧ x ≠ s.1 16) ∨ (s.1 8 ≤ x ∧ x < s.1 8 + (fl e.1).length) := by
  obtain ⟨a, z, h1, h2, -⟩ := rpT_fl hS.1 hS.2.2.1 hc
  have hB := hS.2.2.2.2.1
  have h2 := h2 (rlb e.1 (s.1 8).toNat)
  have hl := sq_leaf0 hS hc h0
  rw [hl] at h1
  have hnd := hS.2.2.1
  rw [h1] at hnd
  have hm : x ∈ fl (rlb e.1 (s.1 8).toNat) ↔ (s.1 8 ≤ x ∧ x < s.1 8 + (fl e.1).length) := by
    refine ⟨fun h => by have := rlb_at he h; omega, fun h => ?_⟩
    rw [(rlb_fl e.1 (s.1 8).toNat he).1]
    exact List.mem_map.mpr ⟨x.toNat, List.mem_range'_1.mpr ⟨by omega, by omega⟩, by show ((x.toNat : Nat) : Int) = x; omega⟩
  unfold filT
  rw [h2, h1]
  simp only [List.mem_append, List.mem_singleton, hm]
  have na1 : s.1 16 ∉ a := fun q => (List.nodup_append.mp hnd).2.2 _ q _ (by simp) rfl
  have na2 : s.1 16 ∉ z := fun q => by
    have := (List.nodup_append.mp hnd).2.1
    simp at this
    exact this.1 q
  refine ⟨fun h => ?_, fun h => ?_⟩
  · rcases h with q | q | q
    · exact Or.inl ⟨Or.inl q, fun w => na1 (w ▸ q)⟩
    · exact Or.inr q
    · exact Or.inl ⟨Or.inr (Or.inr q), fun w => na2 (w ▸ q)⟩
  · rcases h with ⟨q | q | q, w⟩ | q
    · exact Or.inl q
    · exact absurd q w
    · exact Or.inr (Or.inr q)
    · exact Or.inr (Or.inl q)
theorem bnd_fil (hS : SHT s t) (hc : s.1 16 ∈ fl t) (h0 : s.2 9 (s.1 16) = 0) (h9 : ∀ y, y < s.1 8 → v.2 9 y = s.2 9 y ∧ v.2 10 y = s.2 10 y) (h12 : ∀ y, y < s.1 8 → v.2 12 y = s.2 12 y ∧ v.2 13 y = s.2 13 y) : ∀ (n : Nat) (b x : Int), b ∈ fl t → bnd (v.2 9) (v.2 10) (v.2 12) (v.2 13) n b x = bnd (s.2 9) (s.2 10) (s.2 12) (s.2 13) n b x := by
  intro n
  induction n with
  | zero => intro b x _; rfl
  | succ n ih =>
    intro b x hb
    have hbl := hS.lt hb
    unfold bnd
    rw [(h12 b hbl.2.1).1, (h12 b hbl.2.1).2]
    by_cases q : s.2 12 b = -9
    · rw [if_pos q, if_pos q]
    · rw [if_neg q, if_neg q]
      have hu : s.2 12 b ∈ fl t := hS.up9 hb (fun w => q (by rw [w]; exact hS.2.2.2.2.2.2.1))
      have hul := hS.lt hu
      rw [(h9 _ hul.2.1).1, (h9 _ hul.2.1).2, ih _ x hu]
theorem MS_fil (h : MS n s t K Sh V W) (hp : 0 ≤ p ∧ p < 6) (hSp : Sh p = some e) (h0 : s.2 9 (s.1 16) = 0) (hF : FDONE s t K e v) : MS n v (filT s t e) (push K (t, s)) Sh V W := by
  obtain ⟨⟨a1, a2, a3, a4⟩, ⟨b1, b2⟩, ⟨c1, c2⟩, ⟨d1, d2⟩, ⟨e1, e2⟩, g1, g2⟩ := id h
  obtain ⟨hx, ⟨w1, w2, w3⟩, w4, w5, w6, w7, w8, w9, w10, w11⟩ := hF
  have hS := a1.1
  have hc := a1.2.2
  have hcl := hS.lt hc
  have hB := hS.2.2.2.2.1
  have hB' := w8.1.2.2.2.2.1
  obtain ⟨-, f2⟩ := c2 p hp.1 hp.2
  obtain ⟨f3, f4, f5⟩ := f2 e hSp
  have hpos := List.length_pos_of_mem (hd_mem _ f4.1)
  have mem := fil_mem hS hc h0 f4.1
  have h9 : ∀ y, y < s.1 8 → v.2 9 y = s.2 9 y ∧ v.2 10 y = s.2 10 y := fun y hy => ⟨(w4 y hy).1, (w4 y hy).2.1⟩
  have hbn := bnd_fil hS hc h0 h9 w9
  have hcov : ∀ x, x ∈ fl t → ∀ E, cov s x E → cov v x E := fun x hx' E hE y y0 y1 hy => hE y y0 y1 (by
    show bnd (s.2 9) (s.2 10) (s.2 12) (s.2 13) 70 x y ≠ -9
    rw [← hbn 70 x y hx']
    exact hy)
  have hcov2 : ∀ E, cov s (s.1 16) E → cov v (s.1 8) E := fun E hE y y0 y1 hy => hE y y0 y1 (by
    have e1 : bnd (v.2 9) (v.2 10) (v.2 12) (v.2 13) 70 (s.1 8) y = bnd (v.2 9) (v.2 10) (v.2 12) (v.2 13) 70 (s.1 16) y := by
      unfold bnd
      rw [w10, w11, (w9 _ hcl.2.1).1, (w9 _ hcl.2.1).2]
    show bnd (s.2 9) (s.2 10) (s.2 12) (s.2 13) 70 (s.1 16) y ≠ -9
    rw [← hbn 70 _ y hc, ← e1]
    exact hy)
  have hz8 : s.2 42 (s.1 8) = 0 := d2 _ (Int.le_refl _) (by omega)
  refine ⟨⟨w8, KIs_x a2 hx (by decide) (by decide), fun x x0 x1 => ?_, fun u hu x hx' => ?_⟩, ⟨BX_x b1 hx (by decide) (by decide) (by omega), b2.x hx (by decide)⟩, ⟨w7, c2.x hx (by decide) (by decide)⟩, ⟨fun b b0 b1' => ?_, fun b b0 b1' => ?_⟩, ⟨VK_x e1 hx (by decide) (by decide) (by omega), fun hv h35 => ?_⟩, WLs_x g1 hx (by decide) (by decide), fun p hp => by have := g2 p hp; omega⟩
  · by_cases q : x < s.1 8
    · obtain ⟨q1, q2, q3⟩ := w4 x q
      rw [q1, q2, q3]
      exact a3 x x0 q
    · obtain ⟨k, hk⟩ : ∃ k : Nat, x = s.1 8 + k := ⟨(x - s.1 8).toNat, by omega⟩
      have hkl : k < (fl e.1).length := by omega
      have hg := List.getElem?_eq_getElem hkl
      obtain ⟨q1, q2, q3⟩ := w5 k _ hg
      rw [hk, q1, q2, q3]
      exact (f5 k _ hg).2.2.2.2.2
  · have hq := NVK_push a4 a3 hS u hu x hx'
    have hub : 0 ≤ x ∧ x < s.1 8 := by
      unfold push at hu
      rcases List.mem_append.mp hu with q | q
      · have hq : u ∈ K := by
          split at q
          · exact List.mem_of_mem_tail q
          · exact q
        obtain ⟨i, hi, rfl⟩ := List.mem_iff_getElem.mp hq
        exact (AT_mem K[i].1 (c1.2.2 i K[i] (List.getElem?_eq_getElem hi)).2.1.1 x hx').1
      · rw [List.mem_singleton.mp q] at hx'
        have := hS.lt hx'
        exact ⟨this.1, this.2.1⟩
    rw [(w4 x hub.2).1]
    exact hq
  · rw [w6]
    by_cases q : b = s.1 16
    · rw [if_pos q]; right; omega
    · rw [if_neg q]
      by_cases q2 : b < s.1 8
      · rcases d1 b b0 q2 with z | z
        · exact Or.inl z
        · exact Or.inr ⟨z.1, by omega⟩
      · exact Or.inl (d2 b (by omega) (by omega))
  · rw [w6, if_neg (by omega)]
    exact d2 b (by omega) b1'
  · have s35 : s.1 35 = 0 := by
      rw [w3] at h35
      unfold chg at h35
      by_cases q : s.1 35 = 0
      · exact q
      · rw [if_pos q] at h35; cases h35
    have e52 := hx.1 52 (by decide) (by decide)
    have e54 := hx.1 54 (by decide) (by decide)
    have e55 := hx.1 55 (by decide) (by decide)
    have e61 := hx.1 61 (by decide) (by decide)
    have e62 := hx.1 62 (by decide) (by decide)
    rw [e61] at hv
    obtain ⟨q1, q2, q3, q4⟩ := e2 hv s35
    have f0 : s.2 42 (s.1 16) ≤ 0 := by
      have h1 := q4 _ hc h0
      by_cases z : 0 < s.2 42 (s.1 16)
      · have h2 := (d1 _ hcl.1 hcl.2.1).resolve_left (by omega)
        have h1 : (if 0 < s.2 42 (s.1 16) then fllN (s.2 42) 3003 (s.2 42 (s.1 16) - 1) else s.1 16) = s.1 16 := h1
        rw [if_pos z] at h1
        have := fill_gt d1 3003 (s.2 42 (s.1 16) - 1) (by omega) h2.2
        omega
      · omega
    have ff := fun b b0 b1 => fll_fil (fb := s.2 42) (fv := v.2 42) (o := s.1 16) (B := s.1 8) ⟨hcl.1, hcl.2.1⟩ f0 w6 (by omega) d1 3004 b b0 b1 (by omega)
    have new : s.1 8 ∈ fl (filT s t e) := (mem _).mpr (Or.inr ⟨Int.le_refl _, by omega⟩)
    have keepm : ∀ x, x ∈ fl t → x ≠ s.1 16 → x ∈ fl (filT s t e) := fun x h1 h2 => (mem x).mpr (Or.inl ⟨h1, h2⟩)
    refine ⟨?_, ⟨q2.1, ?_⟩, ?_, fun y hy hs => ?_⟩
    · unfold HB at q1 ⊢; rw [e55, e52, e54]; exact q1
    · rw [e55, e52, e54, e62]
      exact VR_k q2.2 (keep_x hx (by decide)) (Int.le_refl _) (Int.le_refl _)
    · show VG v (filT s t e) (tgt v (filT s t e)) V
      refine VG_cg2 (by omega) (fun x hx' h9' => ⟨keepm x hx' (fun w => h9' (by rw [w]; exact h0)), (w4 x (hS.lt hx').2.1).1, hcov x hx'⟩) (fun b hb b0 b1' => ?_) _ V (Nat.lt_succ_self _) q3
      by_cases bt : b ∈ fl t
      · have et : tgt s t b = b := if_pos bt
        rw [et]
        by_cases bc : b = s.1 16
        · have en : ¬ b ∈ fl (filT s t e) := fun w => by
            rcases (mem b).mp w with z | z
            · exact z.2 bc
            · omega
          have ev : tgt v (filT s t e) b = s.1 8 := by
            have h1 : fllF (s.2 42) b = b := q4 b bt (by rw [bc]; exact h0)
            have h2 := (ff b b0 b1').2 (by show fllF (s.2 42) b = _; rw [h1, bc])
            show (if b ∈ fl (filT s t e) then b else fllF (v.2 42) b) = _
            rw [if_neg en]
            exact h2
          rw [ev, bc]
          exact ⟨new, fun E hE => hcov2 E hE, fun w => by omega⟩
        · have hm' := keepm b bt bc
          have ev : tgt v (filT s t e) b = b := if_pos hm'
          rw [ev]
          exact ⟨hm', fun E hE => hcov b bt E hE, fun _ => ⟨rfl, (w4 b b1').1⟩⟩
      · have et : tgt s t b = fllF (s.2 42) b := if_neg bt
        rw [et] at hb ⊢
        have en : ¬ b ∈ fl (filT s t e) := fun w => by
          rcases (mem b).mp w with z | z
          · exact bt z.1
          · omega
        have ev : tgt v (filT s t e) b = fllF (v.2 42) b := if_neg en
        rw [ev]
        by_cases yc : fllF (s.2 42) b = s.1 16
        · have h2 : fllF (v.2 42) b = s.1 8 := (ff b b0 b1').2 yc
          rw [h2, yc]
          exact ⟨new, fun E hE => hcov2 E hE, fun w => by omega⟩
        · have h2 : fllF (v.2 42) b = fllF (s.2 42) b := (ff b b0 b1').1 yc
          rw [h2]
          exact ⟨keepm _ hb yc, fun E hE => hcov _ hb E hE, fun w => absurd (w ▸ hb) bt⟩
    · rcases (mem y).mp hy with z | z
      · have hyl := hS.lt z.1
        have h1 : fllF (s.2 42) y = y := q4 y z.1 (by rw [← (w4 y hyl.2.1).1]; exact hs)
        have h2 : fllF (v.2 42) y = fllF (s.2 42) y := (ff y hyl.1 hyl.2.1).1 (by show fllF (s.2 42) y ≠ _; rw [h1]; exact z.2)
        rw [h2, h1]
      · show (if 0 < v.2 42 y then fllN (v.2 42) 3003 (v.2 42 y - 1) else y) = y
        have e3 : v.2 42 y = 0 := by
          rw [w6, if_neg (by omega)]
          exact d2 y z.1 (by omega)
        rw [e3, if_neg (by omega)]
end
