section
/-! A piece of the tree is changed: what the rows hold behind it. -/
noncomputable def rpT (x : Int) (u t : Term) : Term := if hd t = x then u else rp x u t
/-- the cells of some nodes are as they were -/
def OLD (P : Int → Prop) (s w : SM) : Prop := ∀ y, P y → (w.2 9 y = s.2 9 y ∧ w.2 10 y = s.2 10 y ∧ w.2 11 y = s.2 11 y) ∧ (w.2 12 y = s.2 12 y ∧ w.2 13 y = s.2 13 y) ∧ ∀ i, 0 ≤ i → i < 3 → w.2 14 (3 * y + i) = s.2 14 (3 * y + i)
theorem OLD.rf {P : Int → Prop} {s : SM} : OLD P s s := fun _ _ => ⟨⟨rfl, rfl, rfl⟩, ⟨rfl, rfl⟩, fun _ _ _ => rfl⟩
theorem OLD.tr {P : Int → Prop} {s w v : SM} (h1 : OLD P s w) (h2 : OLD P w v) : OLD P s v := fun y hy => by
  obtain ⟨⟨a1, a2, a3⟩, ⟨a4, a5⟩, a6⟩ := h1 y hy
  obtain ⟨⟨b1, b2, b3⟩, ⟨b4, b5⟩, b6⟩ := h2 y hy
  exact ⟨⟨b1.trans a1, b2.trans a2, b3.trans a3⟩, ⟨b4.trans a4, b5.trans a5⟩, fun i i0 i3 => (b6 i i0 i3).trans (a6 i i0 i3)⟩
theorem OLD.mo {P P' : Int → Prop} {s w : SM} (h : OLD P s w) (hp : ∀ y, P' y → P y) : OLD P' s w := fun y hy => h y (hp y hy)
theorem rpT_fl {so pa up pl : Int → Int} {B c : Int} {t : Term} (h : AT so pa up pl B t) (hnd : (fl t).Nodup) (hc : c ∈ fl t) : ∃ a z : List Int, fl t = a ++ (fl (sq c t) ++ z) ∧ (∀ u, fl (rpT c u t) = a ++ (fl u ++ z)) ∧ (c ≠ hd t → hd t ∈ a) := by
  by_cases e : hd t = c
  · refine ⟨[], [], ?_, fun u => ?_, fun q => absurd e.symm q⟩
    · unfold sq; rw [if_pos e]; simp
    · unfold rpT; rw [if_pos e]; simp
  · obtain ⟨a, z, ha, h1, h2⟩ := rp_fl t h hnd hc (Ne.symm e)
    refine ⟨a, z, ?_, fun u => ?_, fun _ => ?_⟩
    · unfold sq; rw [if_neg e]; exact h1
    · unfold rpT; rw [if_neg e]; exact h2 u
    · obtain ⟨r, er⟩ := fl_hd t h
      rw [er] at h1
      cases a with
      | nil => exact absurd rfl ha
      | cons y a =>
        rw [List.cons_append] at h1
        rw [(List.cons.inj h1).1]
        exact List.mem_cons_self ..
theorem SHT_rp {s w : SM} {t u : Term} {c : Int} (h : SHT s t) (hc : c ∈ fl t) (hB : s.1 8 ≤ w.1 8 ∧ w.1 8 ≤ 3000) (hu : ATs w u) (hf : full (w.2 9) u) (hnd : (fl u).Nodup) (hdis : ∀ y, y ∈ fl u → y ∈ fl t → y ∈ fl (sq c t))
    (hs : ∀ y, y ∈ fl t → y ∉ fl (sq c t) → w.2 9 y = s.2 9 y ∧ w.2 12 y = s.2 12 y ∧ w.2 13 y = s.2 13 y ∧ ∀ i, 0 ≤ i → i < 3 → 3 * y + i ≠ 3 * s.2 12 c + s.2 13 c → w.2 14 (3 * y + i) = s.2 14 (3 * y + i))
    (hup : w.2 12 (hd u) = s.2 12 c ∧ w.2 13 (hd u) = s.2 13 c) (hpa : c ≠ hd t → w.2 14 (3 * s.2 12 c + s.2 13 c) = hd u) (htop : w.1 15 = if c = hd t then hd u else s.1 15) (hlen : (fl (rpT c u t)).length ≤ 60) : SHT w (rpT c u t) := by
  obtain ⟨h1, h2, h3, h4, h5, h6, h7, h8⟩ := h
  have hnd2 : (fl (rpT c u t)).Nodup := by
    obtain ⟨a, z, e1, e2, -⟩ := rpT_fl h1 h3 hc
    rw [e2]
    rw [e1] at h3
    obtain ⟨n1, n2, n3⟩ := List.nodup_append.mp h3
    obtain ⟨n4, n5, n6⟩ := List.nodup_append.mp n2
    refine List.nodup_append.mpr ⟨n1, List.nodup_append.mpr ⟨hnd, n5, fun x hx y hy e => ?_⟩, fun x hx y hy e => ?_⟩
    · subst e
      have := hdis x hx (by rw [e1]; simp [hy])
      exact n6 x this x hy rfl
    · subst e
      rcases List.mem_append.mp hy with hy | hy
      · have := hdis x hy (by rw [e1]; simp [hx])
        exact n3 x hx x (List.mem_append_left _ this) rfl
      · exact n3 x hx x (List.mem_append_right _ hy) rfl
  by_cases e : hd t = c
  · have er : rpT c u t = u := if_pos e
    rw [er] at hnd2 hlen ⊢
    rw [if_pos e.symm] at htop
    rw [← e, h7, h8] at hup
    exact ⟨hu, hf, hnd2, hlen, ⟨by omega, hB.2⟩, htop.symm, hup.1, hup.2⟩
  · have er : rpT c u t = rp c u t := if_neg e
    have es : sq c t = sb c t := if_neg e
    rw [es] at hs hdis
    rw [er] at hnd2 hlen ⊢
    rw [if_neg (Ne.symm e)] at htop
    obtain ⟨q1, q2⟩ := rp_hd (x := c) (u := u) t
    obtain ⟨b1, b2, b3, b4, b5, b6⟩ := sb_ok t h1 h3 hc (Ne.symm e)
    have ht := hd_mem t h1
    have hst := hs _ ht b5
    refine ⟨AT_rp hB.1 hu hf t h1 h3 hc (Ne.symm e) (fun y hy hn => ⟨(hs y hy hn).1, fun i i0 i1 _ ne => (hs y hy hn).2.2.2 i i0 (by have := pO_in (s.2 9 y); omega) ne⟩) (fun y hy hn _ => ⟨(hs y hy hn).2.1, (hs y hy hn).2.2.1⟩) (hpa (Ne.symm e)) hup.1 hup.2, ?_, hnd2, hlen, ⟨by omega, hB.2⟩, ?_, ?_, ?_⟩
    · unfold full
      rw [q1, q2, hst.1]
      exact h2
    · rw [q1, htop]; exact h6
    · rw [q1, hst.2.1]; exact h7
    · rw [q1, hst.2.2.1]; exact h8
/-! congruences -/
section
variable {ey ef : List Nat} {s w : SM}
theorem partU_x {b i c : Int} (h : SX ey ef s w) : SX ey ef (partU s b i c) (partU w b i c) := h.ua.ua.ua
theorem setU_x {b so v k : Int} (h : SX ey ef s w) : SX ey ef (setU s b so v k) (setU w b so v k) := h.ua.ua.ua
theorem bornU_x {so v k : Int} (h : SX ey ef s w) (hy : 8 ∉ ey) : SX ey ef (bornU s so v k) (bornU w so v k) := by
  unfold bornU
  rw [h.1 8 (by decide) hy]
  exact setU_x h.us
theorem replU_x {o c : Int} (h : SX ey ef s w) (ho : o < 3000) (hf : 12 ∉ ef ∧ 13 ∉ ef) : SX ey ef (replU s o c) (replU w o c) := by
  unfold replU
  rw [h.2 12 (by decide) hf.1 o (by unfold scI; omega), h.2 13 (by decide) hf.2 o (by unfold scI; omega)]
  split
  · exact h.us.ua.ua
  · exact partU_x h
theorem bornU_8 {so v k : Int} : (bornU s so v k).1 8 = s.1 8 + 1 := rfl
theorem bornU_o {so v k : Int} : OLD (fun y => y < s.1 8) s (bornU s so v k) := fun y hy => by
  have hy : y < s.1 8 := hy
  simp only [bornU, setU, ua_2, us_2]
  refine ⟨⟨?_, ?_, ?_⟩, ⟨?_, ?_⟩, fun i _ _ => ?_⟩
  · rw [if_neg (by omega), if_neg (by omega), if_neg (by omega)]
  · rw [if_neg (by omega), if_neg (by omega), if_neg (by omega)]
  · rw [if_neg (by omega), if_neg (by omega), if_neg (by omega)]
  · rw [if_neg (by omega), if_neg (by omega), if_neg (by omega)]
  · rw [if_neg (by omega), if_neg (by omega), if_neg (by omega)]
  · rw [if_neg (by omega), if_neg (by omega), if_neg (by omega)]
theorem bornU_at {so v k : Int} : (bornU s so v k).2 9 (s.1 8) = so ∧ (bornU s so v k).2 10 (s.1 8) = nvl so v ∧ (bornU s so v k).2 11 (s.1 8) = kvl so k := by
  simp [bornU, setU, ua_2, us_2]
theorem bornU_e {so v k : Int} : eqx [8] [9, 10, 11] s (bornU s so v k) := eqx_ua (eqx_ua (eqx_ua (eqx_us eqx.rf (by decide)) (by decide)) (by decide)) (by decide)
theorem partU_e {b i c : Int} : eqx [] [12, 13, 14] s (partU s b i c) := eqx_ua (eqx_ua (eqx_ua eqx.rf (by decide)) (by decide)) (by decide)
theorem replU_e {o c : Int} : eqx [15] [12, 13, 14] s (replU s o c) := by
  unfold replU
  split
  · exact eqx_ua (eqx_ua (eqx_us eqx.rf (by decide)) (by decide)) (by decide)
  · exact partU_e.up (fun _ q => by cases q) (fun _ q => q)
theorem partU_at {b i c : Int} : (partU s b i c).2 14 (3 * b + i) = c ∧ (partU s b i c).2 12 c = b ∧ (partU s b i c).2 13 c = i := by
  simp [partU, ua_2]
theorem partU_o {b i c : Int} (hi : 0 ≤ i ∧ i < 3) : OLD (fun y => y ≠ b ∧ y ≠ c) s (partU s b i c) := fun y hy => by
  obtain ⟨hb, hc⟩ := hy
  simp only [partU, ua_2]
  refine ⟨⟨?_, ?_, ?_⟩, ⟨?_, ?_⟩, fun j _ _ => ?_⟩
  · rw [if_neg (by omega), if_neg (by omega), if_neg (by omega)]
  · rw [if_neg (by omega), if_neg (by omega), if_neg (by omega)]
  · rw [if_neg (by omega), if_neg (by omega), if_neg (by omega)]
  · rw [if_neg (by omega), if_neg (by omega), if_neg (by omega)]
  · rw [if_neg (by omega), if_neg (by omega), if_neg (by omega)]
  · rw [if_neg (by omega), if_neg (by omega), if_neg (by omega)]
end
/-- a hole more as a part -/
def hlU (b i : Int) (s : SM) : SM := partU (bornU s 0 (-9) (-9)) b i (s.1 8)
def hlsU (b : Int) : Nat → Int → SM → SM
  | 0, _, s => s
  | m + 1, i, s => hlsU b m (i + 1) (hlU b i s)
def adds : Nat → Nat → Term → Term
  | 0, _, u => u
  | m + 1, B, u => adds m (B + 1) (.add u (.index B))
theorem adds_fl : ∀ (m B : Nat) (u : Term), fl (adds m B u) = fl u ++ (List.range' B m).map Int.ofNat := by
  intro m
  induction m with
  | zero => intro B u; simp [adds]
  | succ m ih =>
    intro B u
    show fl (adds m (B + 1) (.add u (.index B))) = _
    rw [ih, List.range'_succ]
    show (fl u ++ [(B : Int)]) ++ _ = _
    simp
theorem adds_hd : ∀ (m B : Nat) (u : Term), hd (adds m B u) = hd u ∧ na (adds m B u) = na u + m := by
  intro m
  induction m with
  | zero => intro B u; exact ⟨rfl, by show na u = na u + ((0 : Nat) : Int); omega⟩
  | succ m ih =>
    intro B u
    obtain ⟨h1, h2⟩ := ih (B + 1) (.add u (.index B))
    refine ⟨h1, h2.trans ?_⟩
    show na u + 1 + (m : Int) = na u + ((m + 1 : Nat) : Int)
    omega
theorem hlU_8 {b i : Int} {s : SM} : (hlU b i s).1 8 = s.1 8 + 1 := rfl
theorem hlU_x {ey ef : List Nat} {s w : SM} {b i : Int} (h : SX ey ef s w) (hy : 8 ∉ ey) : SX ey ef (hlU b i s) (hlU b i w) := by
  unfold hlU
  rw [h.1 8 (by decide) hy]
  exact partU_x (bornU_x h hy)
theorem hlU_e {b i : Int} {s : SM} : eqx [8] [9, 10, 11, 12, 13, 14] s (hlU b i s) := (bornU_e.up (fun _ q => q) (fun y q => by simp at q ⊢; omega)).tr (partU_e.up (fun _ q => by cases q) (fun y q => by simp at q ⊢; omega))
theorem hlU_o {b i : Int} {s : SM} (hi : 0 ≤ i ∧ i < 3) : OLD (fun y => y < s.1 8 ∧ y ≠ b) s (hlU b i s) :=
  (bornU_o.mo (fun y q => q.1)).tr ((partU_o hi).mo (fun y q => ⟨q.2, by have := q.1; omega⟩))
theorem hlU_b {b i : Int} {s : SM} (hb : b < s.1 8) : (hlU b i s).2 9 b = s.2 9 b ∧ (hlU b i s).2 10 b = s.2 10 b ∧ (hlU b i s).2 11 b = s.2 11 b ∧ (hlU b i s).2 12 b = s.2 12 b ∧ (hlU b i s).2 13 b = s.2 13 b ∧ ∀ j, j ≠ i → (hlU b i s).2 14 (3 * b + j) = s.2 14 (3 * b + j) := by
  simp only [hlU, partU, bornU, setU, ua_2, us_2]
  refine ⟨?_, ?_, ?_, ?_, ?_, fun j hj => ?_⟩
  · rw [if_neg (by omega), if_neg (by omega), if_neg (by omega), if_neg (by omega), if_neg (by omega), if_neg (by omega)]
  · rw [if_neg (by omega), if_neg (by omega), if_neg (by omega), if_neg (by omega), if_neg (by omega), if_neg (by omega)]
  · rw [if_neg (by omega), if_neg (by omega), if_neg (by omega), if_neg (by omega), if_neg (by omega), if_neg (by omega)]
  · rw [if_neg (by omega), if_neg (by omega), if_neg (by omega), if_neg (by omega), if_neg (by omega), if_neg (by omega)]
  · rw [if_neg (by omega), if_neg (by omega), if_neg (by omega), if_neg (by omega), if_neg (by omega), if_neg (by omega)]
  · rw [if_neg (by omega), if_neg (by omega), if_neg (by omega), if_neg (by omega), if_neg (by omega), if_neg (by omega)]
theorem hlU_AT {b i : Int} {s : SM} {u : Term} (h : ATs s u) (hnd : (fl u).Nodup) (hb : hd u = b) (hi : na u = i) (hp : i < pO (s.2 9 b)) (h8 : 0 ≤ s.1 8) : ATs (hlU b i s) (.add u (.index (s.1 8).toNat)) ∧ (fl (Term.add u (.index (s.1 8).toNat))).Nodup := by
  have hlt := fun x hx => (AT_mem u h x hx).1
  have hbl := hlt b (by rw [← hb]; exact hd_mem u h)
  have hpo := pO_in (s.2 9 b)
  have hn := na_ge u
  have hO := hlU_o (b := b) (i := i) (s := s) (by omega)
  have hB := hlU_b (i := i) hbl.2
  have e8 : (((s.1 8).toNat : Nat) : Int) = s.1 8 := by omega
  obtain ⟨p1, p2, p3⟩ := partU_at (s := bornU s 0 (-9) (-9)) (b := b) (i := i) (c := s.1 8)
  have so8 : (hlU b i s).2 9 (s.1 8) = 0 := by
    show (partU (bornU s 0 (-9) (-9)) b i (s.1 8)).2 9 (s.1 8) = 0
    rw [partU_e.2 9 (by decide)]
    exact bornU_at.1
  refine ⟨⟨?_, ⟨?_, ?_⟩, ?_, ?_, ?_, ?_, ?_⟩, ?_⟩
  · refine AT_cg (by show s.1 8 ≤ s.1 8 + 1; omega) u h hnd (fun x hx => ?_) (fun x hx hne => ?_)
    · by_cases e : x = b
      · subst e
        exact ⟨hB.1, fun j j0 j1 j2 => hB.2.2.2.2.2 j (by have := j2 hb.symm; omega)⟩
      · have := hO x ⟨(hlt x hx).2, e⟩
        exact ⟨this.1.1, fun j j0 j1 _ => this.2.2 j j0 (by have := pO_in (s.2 9 x); omega)⟩
    · have := hO x ⟨(hlt x hx).2, by rw [← hb]; exact hne⟩
      exact this.2.1
  · rw [e8]; show s.1 8 < s.1 8 + 1; omega
  · rw [e8, so8]; decide
  · show na (Term.index (s.1 8).toNat) = pO ((hlU b i s).2 9 (hd (Term.index (s.1 8).toNat)))
    rw [show hd (Term.index (s.1 8).toNat) = s.1 8 from e8, so8]
    rfl
  · rw [hb, hB.1, hi]; exact hp
  · rw [hb, hi, show hd (Term.index (s.1 8).toNat) = s.1 8 from e8]; exact p1
  · rw [hb, show hd (Term.index (s.1 8).toNat) = s.1 8 from e8]; exact p2
  · rw [hi, show hd (Term.index (s.1 8).toNat) = s.1 8 from e8]; exact p3
  · refine List.nodup_append.mpr ⟨hnd, by simp [fl], fun x hx y hy e => ?_⟩
    have := List.mem_singleton.mp hy
    have := hlt x hx
    omega
theorem hlsU_ok {b : Int} : ∀ (m : Nat) (i : Int) (s : SM) (u : Term), ATs s u → (fl u).Nodup → hd u = b → na u = i → i + m = pO (s.2 9 b) → 0 ≤ s.1 8 → ATs (hlsU b m i s) (adds m (s.1 8).toNat u) ∧ (fl (adds m (s.1 8).toNat u)).Nodup ∧ (hlsU b m i s).1 8 = s.1 8 + m ∧ OLD (fun y => y < s.1 8 ∧ y ≠ b) s (hlsU b m i s) ∧ eqx [8] [9, 10, 11, 12, 13, 14] s (hlsU b m i s) ∧
    ((hlsU b m i s).2 9 b = s.2 9 b ∧ (hlsU b m i s).2 10 b = s.2 10 b ∧ (hlsU b m i s).2 11 b = s.2 11 b ∧ (hlsU b m i s).2 12 b = s.2 12 b ∧ (hlsU b m i s).2 13 b = s.2 13 b) ∧ ∀ y, s.1 8 ≤ y → y < s.1 8 + m → (hlsU b m i s).2 9 y = 0 ∧ (hlsU b m i s).2 10 y = -9 ∧ (hlsU b m i s).2 11 y = -9 := by
  intro m
  induction m with
  | zero => intro i s u h1 h2 h3 h4 h5 h6; exact ⟨h1, h2, by show s.1 8 = s.1 8 + ((0 : Nat) : Int); omega, OLD.rf, eqx.rf, ⟨rfl, rfl, rfl, rfl, rfl⟩, fun y a b => by omega⟩
  | succ m ih =>
    intro i s u h1 h2 h3 h4 h5 h6
    have hlt := (AT_mem u h1 _ (hd_mem u h1)).1
    have hbl : b < s.1 8 := by rw [← h3]; exact hlt.2
    have hpo := pO_in (s.2 9 b)
    have hn := na_ge u
    obtain ⟨a1, a2⟩ := hlU_AT h1 h2 h3 h4 (by omega) h6
    have hB := hlU_b (i := i) hbl
    have hO := hlU_o (b := b) (i := i) (s := s) (by omega)
    obtain ⟨b1, b2, b3, b4, b5, b6, b7⟩ := ih (i + 1) (hlU b i s) _ a1 a2 h3 (by show na u + 1 = i + 1; omega) (by rw [hB.1]; omega) (by show 0 ≤ s.1 8 + 1; omega)
    have e8 : ((hlU b i s).1 8).toNat = (s.1 8).toNat + 1 := by show (s.1 8 + 1).toNat = _; omega
    have n8 : (hlU b i s).1 8 = s.1 8 + 1 := rfl
    rw [e8] at b1 b2
    refine ⟨b1, b2, ?_, ?_, hlU_e.tr b5, ?_, fun y y0 y1 => ?_⟩
    · show (hlsU b m (i + 1) (hlU b i s)).1 8 = _
      rw [b3, n8]; omega
    · exact hO.tr (b4.mo (fun y q => ⟨by rw [n8]; have := q.1; omega, q.2⟩))
    · exact ⟨b6.1.trans hB.1, b6.2.1.trans hB.2.1, b6.2.2.1.trans hB.2.2.1, b6.2.2.2.1.trans hB.2.2.2.1, b6.2.2.2.2.trans hB.2.2.2.2.1⟩
    · by_cases e : y = s.1 8
      · subst e
        obtain ⟨⟨c1, c2, c3⟩, -⟩ := b4 (s.1 8) ⟨by rw [n8]; omega, by omega⟩
        obtain ⟨d1, d2, d3⟩ := bornU_at (s := s) (so := 0) (v := -9) (k := -9)
        refine ⟨c1.trans ?_, c2.trans ?_, c3.trans ?_⟩
        · show (partU (bornU s 0 (-9) (-9)) b i (s.1 8)).2 9 (s.1 8) = 0
          rw [partU_e.2 9 (by decide)]; exact d1
        · show (partU (bornU s 0 (-9) (-9)) b i (s.1 8)).2 10 (s.1 8) = -9
          rw [partU_e.2 10 (by decide)]; exact d2
        · show (partU (bornU s 0 (-9) (-9)) b i (s.1 8)).2 11 (s.1 8) = -9
          rw [partU_e.2 11 (by decide)]; exact d3
      · exact b7 y (by rw [n8]; omega) (by rw [n8]; omega)
theorem hlsU_x {ey ef : List Nat} {b : Int} (hy : 8 ∉ ey) : ∀ (m : Nat) (i : Int) (s w : SM), SX ey ef s w → SX ey ef (hlsU b m i s) (hlsU b m i w) := by
  intro m
  induction m with
  | zero => intro i s w h; exact h
  | succ m ih => intro i s w h; exact ih (i + 1) _ _ (hlU_x h hy)
end
section
/-! Acts: what ends each of them; put, take, unwrap, write. -/
theorem replU_in {s s1 : SM} {t : Term} {c b : Int} (h : SHT s t) (hc : c ∈ fl t) (e12 : s1.2 12 c = s.2 12 c) (e13 : s1.2 13 c = s.2 13 c) : ((replU s1 c b).2 12 b = s.2 12 c ∧ (replU s1 c b).2 13 b = s.2 13 c) ∧ (c ≠ hd t → (replU s1 c b).2 14 (3 * s.2 12 c + s.2 13 c) = b) ∧ ((replU s1 c b).1 15 = if c = hd t then b else s1.1 15) ∧ (∀ y, y ≠ b → (replU s1 c b).2 12 y = s1.2 12 y ∧ (replU s1 c b).2 13 y = s1.2 13 y) ∧ (∀ j, j ≠ 3 * s.2 12 c + s.2 13 c → (replU s1 c b).2 14 j = s1.2 14 j) := by
  unfold replU
  rw [e12, e13]
  by_cases e : s.2 12 c = -9
  · have et : c = hd t := Classical.byContradiction fun q => by
      have := h.lt ((AT_mem t h.1 c hc).2.2.2 q).1
      omega
    rw [if_pos e]
    refine ⟨⟨?_, ?_⟩, fun q => absurd et q, ?_, fun y hy => ⟨?_, ?_⟩, fun j hj => ?_⟩
    · simp [ua_2, us_2, e]
    · subst et
      simp [ua_2, us_2, h.2.2.2.2.2.2.2]
    · rw [if_pos et]
      rfl
    · simp [ua_2, us_2, hy]
    · simp [ua_2, us_2, hy]
    · simp [ua_2, us_2]
  · have et : c ≠ hd t := fun q => e (by rw [q]; exact h.2.2.2.2.2.2.1)
    rw [if_neg e]
    refine ⟨⟨?_, ?_⟩, fun _ => ?_, ?_, fun y hy => ⟨?_, ?_⟩, fun j hj => ?_⟩
    · simp [partU, ua_2]
    · simp [partU, ua_2]
    · simp [partU, ua_2]
    · rw [if_neg et]
      rfl
    · simp [partU, ua_2, hy]
    · simp [partU, ua_2, hy]
    · simp [partU, ua_2, hj]
/-- a part's node does not bear what it hangs on -/
theorem sb_up {so pa up pl : Int → Int} {B x : Int} : ∀ (t : Term), AT so pa up pl B t → (fl t).Nodup → x ∈ fl t → x ≠ hd t → up x ∉ fl (sb x t) := by
  intro t
  induction t with
  | index n => intro _ _ hx hn; exact absurd (List.mem_singleton.mp hx) hn
  | add t y ih ihy =>
    intro h hnd hx hn
    obtain ⟨h1, h2, h3, h4, h5, h6, h7⟩ := h
    obtain ⟨d1, d2, d3⟩ := List.nodup_append.mp hnd
    by_cases e : hd y = x
    · rw [show sb x (Term.add t y) = y from if_pos e, ← e, h6]
      exact fun q => d3 _ (hd_mem t h1) _ q rfl
    · by_cases q : x ∈ fl y
      · rw [show sb x (Term.add t y) = sb x y from by show (if hd y = x then y else if x ∈ fl y then sb x y else sb x t) = _; rw [if_neg e, if_pos q]]
        exact ihy h2 d2 q (Ne.symm e)
      · rw [show sb x (Term.add t y) = sb x t from by show (if hd y = x then y else if x ∈ fl y then sb x y else sb x t) = _; rw [if_neg e, if_neg q]]
        exact ih h1 d1 ((List.mem_append.mp hx).resolve_right q) hn
  | _ => intro h; exact h.elim
theorem sq_up {s : SM} {t : Term} {c : Int} (h : SHT s t) (hc : c ∈ fl t) : s.2 12 c ∉ fl (sq c t) := by
  unfold sq
  by_cases e : hd t = c
  · rw [if_pos e, ← e, h.2.2.2.2.2.2.1]
    intro q
    have := h.lt q
    omega
  · rw [if_neg e]
    exact sb_up t h.1 h.2.2.1 hc (Ne.symm e)
/-- part i -/
def prt (i : Int) : Term → Term
  | .add t x => if na t = i then x else prt i t
  | t => t
theorem prt_ok {so pa up pl : Int → Int} {B i : Int} : ∀ (t : Term), AT so pa up pl B t → (fl t).Nodup → 0 ≤ i → i < na t → AT so pa up pl B (prt i t) ∧ full so (prt i t) ∧ hd (prt i t) = pa (3 * hd t + i) ∧ (∀ y, y ∈ fl (prt i t) → y ∈ fl t) ∧ hd t ∉ fl (prt i t) ∧ (fl (prt i t)).Nodup ∧ (fl (prt i t)).length + 1 ≤ (fl t).length ∧ up (hd (prt i t)) = hd t ∧ pl (hd (prt i t)) = i := by
  intro t
  induction t with
  | index n => intro _ _ h0 h1; have h1 : i < 0 := h1; omega
  | add t x ih _ =>
    intro h hnd h0 h1
    obtain ⟨a1, a2, a3, a4, a5, a6, a7⟩ := h
    obtain ⟨d1, d2, d3⟩ := List.nodup_append.mp hnd
    have h1 : i < na t + 1 := h1
    have ht := hd_mem t a1
    have hl : (fl (Term.add t x)).length = (fl t).length + (fl x).length := by show (fl t ++ fl x).length = _; simp
    have hp : 0 < (fl t).length := List.length_pos_of_mem ht
    unfold prt
    by_cases e : na t = i
    · rw [if_pos e]
      refine ⟨a2, a3, by show hd x = pa (3 * hd t + i); rw [← e, a5], fun y hy => List.mem_append_right _ hy, fun q => d3 _ ht _ q rfl, d2, by omega, a6, by rw [a7, e]⟩
    · rw [if_neg e]
      obtain ⟨b1, b2, b3, b4, b5, b6, b7, b8, b9⟩ := ih a1 d1 h0 (by omega)
      exact ⟨b1, b2, b3, fun y hy => List.mem_append_left _ (b4 y hy), b5, b6, by omega, b8, b9⟩
  | _ => intro h; exact h.elim
theorem KP_s {s : SM} {t : Term} (h : SHT s t) (hN : NB s) (hc : s.1 16 ∈ fl t) : KP s (t, s) :=
  ⟨⟨h.1, h.2.1, h.2.2.1, h.2.2.2.1⟩, hc, h.2.2.2.2.2.2.1, h.2.2.2.2.2.2.2, fun x hx => by
    have := h.lt hx
    have := hN x this.1 this.2.1
    exact ⟨this.2.1, this.2.2.1⟩⟩
section
variable {iv : List (Int × Int)} {L : Nat} {h0 : MH} {s : SM} {t : Term} {d : Nat}
/-- the end of an act -/
theorem act_end {x s' w : SM} {a : Int} {F : SM → Prop} {K : List Snap} (h : SHT s t) (hN : NB s) (hc : s.1 16 ∈ fl t) (hK : KL s K) (hw : eqx [18, 30, 31] [17, 32, 33, 34] s w) (hA : AH w (t, s)) (hx : eqx [8, 15, 16, 41] [9, 10, 11, 12, 13, 14, 36, 42] w x) (h8 : s.1 8 ≤ x.1 8) (h9 : ∀ y, 0 ≤ y → y < s.1 8 → x.2 9 y = s.2 9 y) (hS : SX [] [] s' x)
    (hF : ∀ v, SX [24] [25, 26, 27, 28, 29] (us s' 35 (chg (s.1 35) a)) v → KL v (push K (t, s)) → F v) : cm iv L h0 d 100 [vr 307, vi a] x (qv F) := by
  have e24 : x.1 24 = s.1 24 := (hx.1 24 (by decide)).trans (hw.1 24 (by decide))
  have e35 : x.1 35 = s.1 35 := (hx.1 35 (by decide)).trans (hw.1 35 (by decide))
  have hKx : KL x K := KL_up hK h8 h9 e24 ⟨(hx.2 25 (by decide)).trans (hw.2 25 (by decide)), (hx.2 26 (by decide)).trans (hw.2 26 (by decide)), (hx.2 27 (by decide)).trans (hw.2 27 (by decide)), (hx.2 28 (by decide)).trans (hw.2 28 (by decide)), (hx.2 29 (by decide)).trans (hw.2 29 (by decide))⟩
  have hPx : KP x (t, s) := KP_up (KP_s h hN hc) h8 h9
  have w9 : w.2 9 = s.2 9 := hw.2 9 (by decide)
  have hAx : AH x (t, s) := KR_cg hA h.2.2.2.1 (hx.1 30 (by decide)) (hx.1 31 (by decide)) (fun y hy => by
    have := h.lt hy
    rw [w9]
    exact h9 y this.1 this.2.1) (fun k _ _ => ⟨by rw [hx.2 32 (by decide)], by rw [hx.2 33 (by decide)]⟩) (fun k _ _ => by rw [hx.2 34 (by decide)])
  refine endAct_ok (by rw [e24, hK.1]; have := hK.2.1; omega) (hF _ ?_ (enU_K hKx hAx hPx))
  refine (hS.up (fun _ q => by cases q) (fun _ q => by cases q)).us.tr ⟨fun y a1 a2 => ?_, fun f a1 a2 i _ => ?_⟩
  · show (enU x a).1 y = if y = 35 then chg (s.1 35) a else x.1 y
    by_cases e : y = 35
    · subst e
      rw [if_pos rfl, ← e35]
      rfl
    · rw [if_neg e]
      exact enU_e.1 y (by simp at a2 ⊢; omega)
  · rw [enU_e.2 f a2]
    rfl
/-- write() -/
def wriA (s : SM) (v : Int) : Int := if s.2 9 (s.1 16) = 1 ∨ s.2 9 (s.1 16) = 2 ∨ s.2 9 (s.1 16) = 3 then (if (s.2 9 (s.1 16) = 2 ∧ ¬ (0 ≤ v ∧ v ≤ 1)) ∨ (s.2 9 (s.1 16) = 3 ∧ ¬ (0 ≤ v ∧ v ≤ 25)) then -1 else s.2 10 (s.1 16)) else -4
def wriOk (s : SM) (v : Int) : Prop := (s.2 9 (s.1 16) = 1 ∨ s.2 9 (s.1 16) = 2 ∨ s.2 9 (s.1 16) = 3) ∧ (s.2 9 (s.1 16) = 2 → 0 ≤ v ∧ v ≤ 1) ∧ (s.2 9 (s.1 16) = 3 → 0 ≤ v ∧ v ≤ 25)
/-- a done act: what is kept, and the mark that something changed -/
def DONE (s : SM) (t : Term) (K : List Snap) (a : Int) (s' v : SM) : Prop := SX [24] [25, 26, 27, 28, 29] (us s' 35 (chg (s.1 35) a)) v ∧ KL v (push K (t, s))
theorem write_ok {v : Int} {F : Int → SM → Prop} {K : List Snap} (h : SHT s t) (hN : NB s) (hc : s.1 16 ∈ fl t) (hK : KL s K) (hD : 100 ≤ d) (H1 : ¬ wriOk s v → F (wriA s v) s) (H2 : wriOk s v → ∀ w, DONE s t K 0 (ua s 10 (s.1 16) v) w → F (wriA s v) w) : cm iv L h0 d 110 [vr 307, vi v] s (qi F) := by
  obtain ⟨d, rfl⟩ : ∃ k, d = k + 1 := ⟨d - 1, by omega⟩
  have hlt := h.lt hc
  have good : wriOk s v → cm iv L h0 d 99 [vr 307] s (qv fun s2 => (0 ≤ s2.1 16 ∧ s2.1 16 < 3004) ∧ cm iv L h0 d 100 [vr 307, vi 0] (ua s2 10 (s2.1 16) v) (qv fun s4 => F (s2.2 10 (s2.1 16)) s4)) := fun g => by
    refine beginAct_ok h (by omega) (fun w w1 w2 w3 => ?_)
    have e16 : w.1 16 = s.1 16 := w1.1 16 (by decide)
    have e10 : w.2 10 = s.2 10 := w1.2 10 (by decide)
    rw [e16, e10]
    refine ⟨by omega, act_end (s' := ua s 10 (s.1 16) v) h hN hc hK w1 w3 (eqx_ua eqx.rf (by decide)) ?_ ?_ ?_ (fun u u1 u2 => ?_)⟩
    · show s.1 8 ≤ w.1 8
      rw [w1.1 8 (by decide)]; exact Int.le_refl _
    · intro y _ _
      show (ua w 10 (s.1 16) v).2 9 y = _
      rw [ua_2, if_neg (by omega), w1.2 9 (by decide)]
    · exact (SX.eq w1 (by decide) (by decide)).ua
    · have := H2 g u ⟨u1, u2⟩
      obtain ⟨g1, g2, g3⟩ := g
      unfold wriA at this
      rw [if_pos g1, if_neg (by omega)] at this
      exact this
  have bad : ¬ wriOk s v → (s.2 9 (s.1 16) = 1 ∨ s.2 9 (s.1 16) = 2 ∨ s.2 9 (s.1 16) = 3) → F (-1) s := fun g q => by
    have := H1 g
    unfold wriOk at g
    unfold wriA at this
    rw [if_pos q, if_pos (by omega)] at this
    exact this
  have no : ¬ (s.2 9 (s.1 16) = 1 ∨ s.2 9 (s.1 16) = 2 ∨ s.2 9 (s.1 16) = 3) → F (-4) s := fun q => by
    have := H1 (fun g => q g.1)
    unfold wriA at this
    rw [if_neg q] at this
    exact this
  refine B110 ⟨by omega, ?_⟩
  repeat' first
    | exact good (by unfold wriOk; omega)
    | exact bad (by unfold wriOk; omega) (by omega)
    | exact no (by omega)
    | refine ⟨fun _ => ?_, fun _ => ?_⟩
    | (exfalso; omega)
/-- take() -/
noncomputable def tkT (s : SM) (t : Term) : Term := rpT (s.1 16) (.index (s.1 8).toNat) t
def tkU (s : SM) : SM := us (replU (bornU s 0 (-9) (-9)) (s.1 16) (s.1 8)) 16 (s.1 8)
def tkA (s : SM) : Int := if s.2 9 (s.1 16) = 0 then -4 else if s.1 8 = 3000 then -2 else s.1 8
def tkOk (s : SM) : Prop := s.2 9 (s.1 16) ≠ 0 ∧ s.1 8 ≠ 3000
theorem take_ok {F : Int → SM → Prop} {K : List Snap} (h : SHT s t) (hN : NB s) (hc : s.1 16 ∈ fl t) (hK : KL s K) (hD : 100 ≤ d) (H1 : ¬ tkOk s → F (tkA s) s) (H2 : tkOk s → ∀ w, DONE s t K 0 (tkU s) w → F (tkA s) w) : cm iv L h0 d 108 [vr 307] s (qi F) := by
  obtain ⟨d, rfl⟩ : ∃ k, d = k + 2 := ⟨d - 2, by omega⟩
  have hlt := h.lt hc
  have h8 := h.2.2.2.2.1
  have mc := AT_mem t h.1 _ hc
  have hup : s.2 12 (s.1 16) = -9 ∨ (0 ≤ s.2 12 (s.1 16) ∧ s.2 12 (s.1 16) < 3004) ∧ 0 ≤ s.2 13 (s.1 16) ∧ s.2 13 (s.1 16) < 3 := by
    by_cases e : s.1 16 = hd t
    · exact Or.inl (by rw [e]; exact h.2.2.2.2.2.2.1)
    · obtain ⟨u1, u2, u3⟩ := mc.2.2.2 e
      have := h.lt u1
      have := pO_in (s.2 9 (s.2 12 (s.1 16)))
      exact Or.inr ⟨by omega, by omega⟩
  unfold tkA tkOk at H1
  unfold tkA at H2
  refine B108 ⟨by omega, fun e => ⟨fun e8 => ?_, fun e8 => ?_⟩, fun e => ?_⟩
  · refine beginAct_ok h (by omega) (fun w w1 w2 w3 => ?_)
    have w8 : w.1 8 = s.1 8 := w1.1 8 (by decide)
    have hx := SX.eq (ey := []) (ef := []) w1 (by decide) (by decide)
    refine born_ok (by omega) ?_
    rw [w8]
    have g16 : (bornU w 0 (-9) (-9)).1 16 = s.1 16 := (bornU_e.1 16 (by decide)).trans (w1.1 16 (by decide))
    have g12 : (bornU w 0 (-9) (-9)).2 12 = s.2 12 := (bornU_e.2 12 (by decide)).trans (w1.2 12 (by decide))
    have g13 : (bornU w 0 (-9) (-9)).2 13 = s.2 13 := (bornU_e.2 13 (by decide)).trans (w1.2 13 (by decide))
    rw [g16]
    refine replace_ok (by omega) (by rw [g12, g13]; exact hup) (by omega) ?_
    refine act_end (s' := tkU s) h hN hc hK w1 w3 ?_ ?_ ?_ ?_ (fun u u1 u2 => ?_)
    · exact eqx_us ((bornU_e.up (fun y q => by simp at q ⊢; omega) (fun y q => by simp at q ⊢; omega)).tr (replU_e.up (fun y q => by simp at q ⊢; omega) (fun y q => by simp at q ⊢; omega))) (by decide)
    · show s.1 8 ≤ (replU (bornU w 0 (-9) (-9)) (s.1 16) (s.1 8)).1 8
      rw [replU_e.1 8 (by decide), bornU_8]; omega
    · intro y y0 y1
      show (replU (bornU w 0 (-9) (-9)) (s.1 16) (s.1 8)).2 9 y = _
      rw [replU_e.2 9 (by decide), (bornU_o y (by rw [w8]; exact y1)).1.1, w1.2 9 (by decide)]
    · exact (replU_x (bornU_x hx (by decide)) (by omega) (by decide)).us
    · have := H2 ⟨e, e8⟩ u ⟨u1, u2⟩
      rw [if_neg e, if_neg e8] at this
      exact this
  · have := H1 (fun q => q.2 e8)
    rw [if_neg e, if_pos e8] at this
    exact this
  · have := H1 (fun q => q.1 e)
    rw [if_pos e] at this
    exact this
end
end
section
/-! put, unwrap. -/
def pgd (s : SM) (so v k : Int) : Prop := (0 ≤ so ∧ so ≤ 15) ∧ (so = 2 → 0 ≤ v ∧ v ≤ 1) ∧ ((so = 3 ∨ so = 8 ∨ so = 10) → 0 ≤ v ∧ v ≤ 25) ∧ ((so = 8 ∨ so = 15) → 0 ≤ k ∧ k < s.1 2)
def pfr (s : SM) (so : Int) : Int := if s.2 9 (s.1 16) = 0 then 1 + pO so else pO so
noncomputable def putA (s : SM) (t : Term) (so v k : Int) : Int := if (0 ≤ so ∧ so ≤ 15) ∧ ¬ (so = 2 ∧ ¬ (0 ≤ v ∧ v ≤ 1)) ∧ ¬ ((so = 3 ∨ so = 8 ∨ so = 10) ∧ ¬ (0 ≤ v ∧ v ≤ 25)) ∧ ¬ ((so = 8 ∨ so = 15) ∧ ¬ (0 ≤ k ∧ k < s.1 2)) then (if so = 0 ∨ (pO so = 0 ∧ s.2 9 (s.1 16) ≠ 0) then -4 else if 60 < ((fl t).length : Int) + pO so ∨ 3000 < s.1 8 + pfr s so then -2 else s.1 8) else -1
def putOk (s : SM) (t : Term) (so v k : Int) : Prop := pgd s so v k ∧ ¬ (so = 0 ∨ (pO so = 0 ∧ s.2 9 (s.1 16) ≠ 0)) ∧ ((fl t).length : Int) + pO so ≤ 60 ∧ s.1 8 + pfr s so ≤ 3000
def putU (s : SM) (so v k : Int) : SM := us (if s.2 9 (s.1 16) = 0 then hlsU (s.1 8) (pO so).toNat 0 (replU (bornU s so v k) (s.1 16) (s.1 8)) else hlsU (s.1 8) (pO so - 1).toNat 1 (partU (replU (bornU s so v k) (s.1 16) (s.1 8)) (s.1 8) 0 (s.1 16))) 16 (s.1 8)
noncomputable def putT (s : SM) (t : Term) (so : Int) : Term := rpT (s.1 16) (if s.2 9 (s.1 16) = 0 then adds (pO so).toNat ((s.1 8).toNat + 1) (.index (s.1 8).toNat) else adds (pO so - 1).toNat ((s.1 8).toNat + 1) (.add (.index (s.1 8).toNat) (sq (s.1 16) t))) t
theorem putA_bad {s : SM} {t : Term} {so v k : Int} (h : ¬ pgd s so v k) : putA s t so v k = -1 := by
  unfold putA
  unfold pgd at h
  rw [if_neg (by omega)]
theorem putA_st {s : SM} {t : Term} {so v k : Int} (h : pgd s so v k) (h1 : so = 0 ∨ (pO so = 0 ∧ s.2 9 (s.1 16) ≠ 0)) : putA s t so v k = -4 := by
  unfold putA
  unfold pgd at h
  rw [if_pos (by omega), if_pos h1]
theorem putA_fu {s : SM} {t : Term} {so v k : Int} (h : pgd s so v k) (h1 : ¬ (so = 0 ∨ (pO so = 0 ∧ s.2 9 (s.1 16) ≠ 0))) (h2 : 60 < ((fl t).length : Int) + pO so ∨ 3000 < s.1 8 + pfr s so) : putA s t so v k = -2 := by
  unfold putA
  unfold pgd at h
  rw [if_pos (by omega), if_neg h1, if_pos h2]
theorem putA_ok {s : SM} {t : Term} {so v k : Int} (h : putOk s t so v k) : putA s t so v k = s.1 8 := by
  obtain ⟨h1, h2, h3, h4⟩ := h
  unfold putA
  unfold pgd at h1
  rw [if_pos (by omega), if_neg h2, if_neg (by omega)]
section
variable {iv : List (Int × Int)} {L : Nat} {h0 : MH} {s : SM} {t : Term} {d : Nat}
theorem put_loop {b c q n : Int} {F : Int → SM → Prop} (hb : 0 ≤ b ∧ b < 3000) (hn : n ≤ 3) : ∀ (m : Nat) (i : Int) (x : SM), 0 ≤ i → i + m = n → (i ≠ 0 ∨ q ≠ 0) → 0 ≤ x.1 8 → x.1 8 + m ≤ 3000 → cm iv L h0 (d + 1) 100 [vr 307, vi 0] (us (hlsU b m i x) 16 b) (qv fun s1 => F b s1) → wm iv L h0 (d + 2) 107 212 [lr 307, ln, ln, ln, ln, li q, li n, ln, li c, li b, li i] [] x (qi F) := by
  intro m
  induction m with
  | zero => intro i x i0 hi hq h8 h8' H; exact B107_212 ⟨fun _ => H, fun q => by omega⟩
  | succ m ih =>
    intro i x i0 hi hq h8 h8' H
    have go : cm iv L h0 (d + 1) 74 [vr 307, vi 0, vi (-9), vi (-9)] x (qi fun r s2 => cm iv L h0 (d + 1) 76 [vr 307, vi b, vi i, vi r] s2 (qv fun s4 => (-2147483648 ≤ i + 1 ∧ i + 1 ≤ 2147483647) ∧ wm iv L h0 (d + 2) 107 212 [lr 307, ln, ln, ln, ln, li q, li n, ln, li c, li b, li (i + 1)] [] s4 (qi F))) :=
      born_ok (by omega) (setPart_ok (by omega) (by omega) (by omega) ⟨by omega, ih (i + 1) _ (by omega) (by omega) (Or.inl (by omega)) (by show 0 ≤ x.1 8 + 1; omega) (by show x.1 8 + 1 + (m : Int) ≤ 3000; omega) H⟩)
    exact B107_212 ⟨fun q => by omega, fun _ => ⟨fun _ => go, fun e => ⟨fun _ => go, fun q => by omega⟩⟩⟩
theorem hlsU_e (b : Int) : ∀ (m : Nat) (i : Int) (s : SM), eqx [8] [9, 10, 11, 12, 13, 14] s (hlsU b m i s) ∧ (hlsU b m i s).1 8 = s.1 8 + m ∧ ∀ y, y < s.1 8 → (hlsU b m i s).2 9 y = s.2 9 y := by
  intro m
  induction m with
  | zero => intro i s; exact ⟨eqx.rf, by show s.1 8 = s.1 8 + ((0 : Nat) : Int); omega, fun _ _ => rfl⟩
  | succ m ih =>
    intro i s
    obtain ⟨a1, a2, a3⟩ := ih (i + 1) (hlU b i s)
    refine ⟨hlU_e.tr a1, ?_, fun y hy => ?_⟩
    · show (hlsU b m (i + 1) (hlU b i s)).1 8 = _
      rw [a2, hlU_8]; omega
    · show (hlsU b m (i + 1) (hlU b i s)).2 9 y = _
      rw [a3 y (by rw [hlU_8]; omega)]
      show (partU (bornU s 0 (-9) (-9)) b i (s.1 8)).2 9 y = _
      rw [partU_e.2 9 (by decide)]
      exact (bornU_o y hy).1.1
theorem up_in (h : SHT s t) {c : Int} (hc : c ∈ fl t) : s.2 12 c = -9 ∨ (0 ≤ s.2 12 c ∧ s.2 12 c < 3004) ∧ 0 ≤ s.2 13 c ∧ s.2 13 c < 3 := by
  by_cases e : c = hd t
  · exact Or.inl (by rw [e]; exact h.2.2.2.2.2.2.1)
  · obtain ⟨u1, u2, u3⟩ := (AT_mem t h.1 _ hc).2.2.2 e
    have := h.lt u1
    have := pO_in (s.2 9 (s.2 12 c))
    exact Or.inr ⟨by omega, by omega⟩
theorem put_ok {so v k : Int} {F : Int → SM → Prop} {K : List Snap} (h : SHT s t) (hN : NB s) (hKI : KIs s) (hc : s.1 16 ∈ fl t) (hK : KL s K) (hD : 100 ≤ d) (H1 : ∀ w, ¬ putOk s t so v k → SX [] [] s w → F (putA s t so v k) w) (H2 : putOk s t so v k → ∀ w, DONE s t K 0 (putU s so v k) w → F (putA s t so v k) w) : cm iv L h0 d 107 [vr 307, vi so, vi v, vi k] s (qi F) := by
  obtain ⟨d, rfl⟩ : ∃ k, d = k + 2 := ⟨d - 2, by omega⟩
  have hlt := h.lt hc
  have h8 := h.2.2.2.2.1
  have hl := h.2.2.2.1
  have k3 := hKI.1
  have hup := up_in h hc
  have hpo := pO_in so
  have G0 : ¬ pgd s so v k → wm iv L h0 (d + 2) 107 76 [lr 307, li so, li v, li k] [vi 0] s (qi F) := fun g => B107_76 ⟨fun q => absurd rfl q, fun _ => by
    have := H1 s (fun q => g q.1) SX.rf
    rw [putA_bad g] at this
    exact this⟩
  have G1 : pgd s so v k → wm iv L h0 (d + 2) 107 76 [lr 307, li so, li v, li k] [vi 1] s (qi F) := fun g => by
    have st : (so = 0 ∨ (pO so = 0 ∧ s.2 9 (s.1 16) ≠ 0)) → F (-4) s := fun q => by
      have := H1 s (fun p => p.2.1 q) SX.rf
      rw [putA_st g q] at this
      exact this
    have fu : ∀ w, SX [] [] s w → ¬ (so = 0 ∨ (pO so = 0 ∧ s.2 9 (s.1 16) ≠ 0)) → (60 < ((fl t).length : Int) + pO so ∨ 3000 < s.1 8 + pfr s so) → F (-2) w := fun w hw q1 q2 => by
      have := H1 w (fun p => by have := p.2.2; omega) hw
      rw [putA_fu g q1 q2] at this
      exact this
    have gso := g.1
    -- the act itself
    have go : ∀ (s3 : SM) (q : Int), eqx [18] [17] s s3 → putOk s t so v k → (q = if s.2 9 (s.1 16) = 0 then 1 else 0) → cm iv L h0 (d + 1) 99 [vr 307] s3 (qv fun s8 => cm iv L h0 (d + 1) 74 [vr 307, vi so, vi v, vi k] s8 (qi fun r10 s9 => cm iv L h0 (d + 1) 77 [vr 307, vi (s8.1 16), vi r10] s9 (qv fun s11 => wm iv L h0 (d + 2) 107 212 [lr 307, ln, ln, ln, ln, li q, li (pO so), ln, li (s8.1 16), li r10, li 0] [] s11 (qi F)))) := fun s3 q e3 gok hq => by
      have hx3 := SX_lay e3
      refine beginAct_ok (h.x hx3 (by decide) (by decide)) (by omega) (fun w w1 w2 w3 => ?_)
      have w1 : eqx [18, 30, 31] [17, 32, 33, 34] s w := (e3.up (fun y q => by simp at q ⊢; omega) (fun y q => by simp at q ⊢; omega)).tr w1
      have w3 : AH w (t, s) := by
        obtain ⟨a1, a2, a3⟩ := w3
        refine ⟨a1, a2.trans (e3.1 16 (by decide)), fun k x hk => ?_⟩
        have := a3 k x hk
        rw [show ((t, s3) : Snap).2.2 10 x = s.2 10 x from by show s3.2 10 x = _; rw [e3.2 10 (by decide)], show ((t, s3) : Snap).2.2 14 = s.2 14 from e3.2 14 (by decide)] at this
        exact this
      have w8 : w.1 8 = s.1 8 := w1.1 8 (by decide)
      have hx := SX.eq (ey := []) (ef := []) w1 (by decide) (by decide)
      have w16 : w.1 16 = s.1 16 := w1.1 16 (by decide)
      have gf := gok.2.2.2
      have b8 : s.1 8 < 3000 := by have g2 := gok.2.1; unfold pfr at gf; split at gf <;> omega
      rw [w16]
      refine born_ok (by omega) ?_
      rw [w8]
      have g12 : (bornU w so v k).2 12 = s.2 12 := (bornU_e.2 12 (by decide)).trans (w1.2 12 (by decide))
      have g13 : (bornU w so v k).2 13 = s.2 13 := (bornU_e.2 13 (by decide)).trans (w1.2 13 (by decide))
      refine replace_ok (by omega) (by rw [g12, g13]; exact hup) (by omega) ?_
      have x8 : (replU (bornU w so v k) (s.1 16) (s.1 8)).1 8 = s.1 8 + 1 := by rw [replU_e.1 8 (by decide), bornU_8, w8]
      have xe : eqx [8, 15, 16, 41] [9, 10, 11, 12, 13, 14, 36, 42] w (replU (bornU w so v k) (s.1 16) (s.1 8)) := (bornU_e.up (fun y q => by simp at q ⊢; omega) (fun y q => by simp at q ⊢; omega)).tr (replU_e.up (fun y q => by simp at q ⊢; omega) (fun y q => by simp at q ⊢; omega))
      have x9 : ∀ y, 0 ≤ y → y < s.1 8 → (replU (bornU w so v k) (s.1 16) (s.1 8)).2 9 y = s.2 9 y := fun y y0 y1 => by
        rw [replU_e.2 9 (by decide), (bornU_o y (by rw [w8]; exact y1)).1.1, w1.2 9 (by decide)]
      have xs : SX [] [] (replU (bornU s so v k) (s.1 16) (s.1 8)) (replU (bornU w so v k) (s.1 16) (s.1 8)) := replU_x (bornU_x hx (by decide)) (by omega) (by decide)
      have H2' := H2 gok
      rw [putA_ok gok] at H2'
      by_cases ho : s.2 9 (s.1 16) = 0
      · rw [if_pos ho] at hq
        unfold pfr at gf
        rw [if_pos ho] at gf
        obtain ⟨e1, e2, e4⟩ := hlsU_e (s.1 8) (pO so).toNat 0 (replU (bornU w so v k) (s.1 16) (s.1 8))
        refine put_loop (by omega) hpo.2 (pO so).toNat 0 _ (by omega) (by omega) (Or.inr (by omega)) (by omega) (by omega) ?_
        refine act_end (s' := putU s so v k) h hN hc hK w1 w3 (eqx_us (xe.tr (e1.up (fun y q => by simp at q ⊢; omega) (fun y q => by simp at q ⊢; omega))) (by decide)) ?_ ?_ ?_ (fun u u1 u2 => H2' u ⟨u1, u2⟩)
        · show s.1 8 ≤ (hlsU _ _ _ _).1 8
          omega
        · intro y y0 y1
          show (hlsU _ _ _ _).2 9 y = _
          rw [e4 y (by omega)]
          exact x9 y y0 y1
        · unfold putU
          rw [if_pos ho]
          exact (hlsU_x (by decide) _ _ _ _ xs).us
      · rw [if_neg ho] at hq
        unfold pfr at gf
        rw [if_neg ho] at gf
        have hn1 : 1 ≤ pO so := by have := gok.2.1; omega
        refine B107_212 ⟨fun q => by omega, fun _ => ⟨fun q => absurd rfl q, fun _ => ⟨fun q2 => by omega, fun _ => setPart_ok (by omega) (by decide) (by omega) ⟨by omega, ?_⟩⟩⟩⟩
        obtain ⟨e1, e2, e4⟩ := hlsU_e (s.1 8) (pO so - 1).toNat 1 (partU (replU (bornU w so v k) (s.1 16) (s.1 8)) (s.1 8) 0 (s.1 16))
        have y8 : (partU (replU (bornU w so v k) (s.1 16) (s.1 8)) (s.1 8) 0 (s.1 16)).1 8 = s.1 8 + 1 := x8
        refine put_loop (by omega) hpo.2 (pO so - 1).toNat 1 _ (by omega) (by omega) (Or.inl (by omega)) (by omega) (by omega) ?_
        refine act_end (s' := putU s so v k) h hN hc hK w1 w3 (eqx_us ((xe.tr (partU_e.up (fun _ q => by cases q) (fun y q => by simp at q ⊢; omega))).tr (e1.up (fun y q => by simp at q ⊢; omega) (fun y q => by simp at q ⊢; omega))) (by decide)) ?_ ?_ ?_ (fun u u1 u2 => H2' u ⟨u1, u2⟩)
        · show s.1 8 ≤ (hlsU _ _ _ _).1 8
          omega
        · intro y y0 y1
          show (hlsU _ _ _ _).2 9 y = _
          rw [e4 y (by omega), partU_e.2 9 (by decide)]
          exact x9 y y0 y1
        · unfold putU
          rw [if_neg ho]
          exact (hlsU_x (by decide) _ _ _ _ (partU_x xs)).us
    have hole : s.2 9 (s.1 16) = 0 → so ≠ 0 → cm iv L h0 (d + 1) 82 [vr 307] s (qi fun r15 s14 => (-2147483648 ≤ r15 + (1 + (pO so)) ∧ r15 + (1 + (pO so)) ≤ 2147483647) ∧ (-2147483648 ≤ (r15 + (1 + (pO so))) - 1 ∧ (r15 + (1 + (pO so))) - 1 ≤ 2147483647) ∧ ((60 < (r15 + (1 + (pO so))) - 1 → F (-2) s14) ∧ ((r15 + (1 + (pO so))) - 1 ≤ 60 → (-2147483648 ≤ (s14.1 8) + (1 + (pO so)) ∧ (s14.1 8) + (1 + (pO so)) ≤ 2147483647) ∧ (((s14.1 8) + (1 + (pO so)) ≤ 3000 → cm iv L h0 (d + 1) 99 [vr 307] s14 (qv fun s19 => cm iv L h0 (d + 1) 74 [vr 307, vi so, vi v, vi k] s19 (qi fun r21 s20 => cm iv L h0 (d + 1) 77 [vr 307, vi (s19.1 16), vi r21] s20 (qv fun s22 => wm iv L h0 (d + 2) 107 212 [lr 307, ln, ln, ln, ln, li 1, li (pO so), ln, li (s19.1 16), li r21, li 0] [] s22 (qi F))))) ∧ (3000 < (s14.1 8) + (1 + (pO so)) → F (-2) s14))))) := fun ho h0 => by
      refine nodes_ok h (by omega) (fun w hw => ⟨by omega, by omega, fun q => fu w (SX_lay hw) (by omega) (Or.inl (by omega)), fun q => ?_⟩)
      rw [hw.1 8 (by decide)]
      have ep : pfr s so = 1 + pO so := if_pos ho
      exact ⟨by omega, fun q2 => go w 1 hw ⟨g, by omega, by omega, by omega⟩ (by rw [if_pos ho]), fun q2 => fu w (SX_lay hw) (by omega) (Or.inr (by omega))⟩
    refine B107_76 ⟨fun _ => ⟨by omega, fun ho => ⟨by omega, fun e => st (Or.inl e), fun e => ⟨fun en => ?_, fun en => st (Or.inr ⟨en, ho⟩)⟩⟩, fun ho => ⟨by omega, fun e => st (Or.inl e), fun e => ⟨fun en => ⟨by omega, hole ho e⟩, fun en => ⟨by omega, hole ho e⟩⟩⟩⟩, fun q => by omega⟩
    refine nodes_ok h (by omega) (fun w hw => ⟨by omega, by omega, fun q => fu w (SX_lay hw) (by omega) (Or.inl (by omega)), fun q => ?_⟩)
    rw [hw.1 8 (by decide)]
    have ep : pfr s so = pO so := if_neg ho
    exact ⟨by omega, fun q2 => go w 0 hw ⟨g, by omega, by omega, by omega⟩ (by rw [if_neg ho]), fun q2 => fu w (SX_lay hw) (by omega) (Or.inr (by omega))⟩
  refine B107 ?_
  repeat' first
    | exact G1 (by unfold pgd; omega)
    | exact G0 (by unfold pgd; omega)
    | refine ⟨fun _ => ?_, fun _ => ?_⟩
    | refine ⟨k3, ?_⟩
    | (exfalso; omega)
/-- unwrap() -/
noncomputable def uwT (s : SM) (t : Term) (i : Int) : Term := rpT (s.1 16) (prt i (sq (s.1 16) t)) t
def uwU (s : SM) (i : Int) : SM := us (replU s (s.1 16) (s.2 14 (3 * s.1 16 + i))) 16 (s.2 14 (3 * s.1 16 + i))
def uwA (s : SM) (i : Int) : Int := if pO (s.2 9 (s.1 16)) = 0 then -4 else if 0 ≤ i ∧ i < pO (s.2 9 (s.1 16)) then s.2 14 (3 * s.1 16 + i) else -3
def uwOk (s : SM) (i : Int) : Prop := 0 ≤ i ∧ i < pO (s.2 9 (s.1 16))
def uwN (s : SM) : SM := if pO (s.2 9 (s.1 16)) = 0 then s else mtU s 2
theorem unwrap_ok {n i : Int} {F : Int → SM → Prop} {K : List Snap} (h : SHT s t) (hN : NB s) (hcm : CM n s) (hn : n ≤ 600) (hc : s.1 16 ∈ fl t) (hK : KL s K) (hD : 100 ≤ d) (H1 : ¬ uwOk s i → F (uwA s i) (uwN s)) (H2 : uwOk s i → ∀ w, DONE s t K 0 (uwU s i) w → F (uwA s i) w) : cm iv L h0 d 109 [vr 307, vi i] s (qi F) := by
  obtain ⟨d, rfl⟩ : ∃ k, d = k + 2 := ⟨d - 2, by omega⟩
  have hlt := h.lt hc
  have mc := AT_mem t h.1 _ hc
  have hpo := pO_in (s.2 9 (s.1 16))
  have hup := up_in h hc
  unfold uwA uwN uwOk at H1
  unfold uwA uwOk at H2
  refine B109 ⟨by omega, mc.2.1, fun e => ⟨by omega, fun hi => ?_, fun hi => meets_ok hcm hn (by decide) ?_⟩, fun e => ?_⟩
  · have hi2 : i < pO (s.2 9 (s.1 16)) := by omega
    refine beginAct_ok h (by omega) (fun w w1 w2 w3 => ?_)
    have hx := SX.eq (ey := []) (ef := []) w1 (by decide) (by decide)
    have w16 : w.1 16 = s.1 16 := w1.1 16 (by decide)
    have w14 : w.2 14 = s.2 14 := w1.2 14 (by decide)
    rw [w16, w14]
    have hp : s.2 14 (3 * s.1 16 + i) ∈ fl t := (mc.2.2.1 i hi.1 hi2 (fun q => by have := h.2.1; unfold full at this; rw [this, ← q]; exact hi2)).1
    have hpl := h.lt hp
    refine ⟨by omega, by omega, by omega, replace_ok (by omega) (by rw [w1.2 12 (by decide), w1.2 13 (by decide)]; exact hup) (by omega) ?_⟩
    refine act_end (s' := uwU s i) h hN hc hK w1 w3 (eqx_us (replU_e.up (fun y q => by simp at q ⊢; omega) (fun y q => by simp at q ⊢; omega)) (by decide)) ?_ ?_ ?_ (fun u u1 u2 => ?_)
    · show s.1 8 ≤ (replU w _ _).1 8
      rw [replU_e.1 8 (by decide), w1.1 8 (by decide)]; exact Int.le_refl _
    · intro y y0 y1
      show (replU w _ _).2 9 y = _
      rw [replU_e.2 9 (by decide), w1.2 9 (by decide)]
    · exact (replU_x hx (by omega) (by decide)).us
    · have := H2 ⟨hi.1, hi2⟩ u ⟨u1, u2⟩
      rw [if_neg e, if_pos ⟨hi.1, hi2⟩] at this
      exact this
  · have := H1 (by omega)
    simp only [if_neg e, if_neg (show ¬ (0 ≤ i ∧ i < pO (s.2 9 (s.1 16))) by omega)] at this
    exact this
  · have := H1 (by omega)
    simp only [if_pos e] at this
    exact this
end
end
section
/-! What holds of the sheet behind an act. -/
def AFT (s : SM) (t : Term) : Prop := SHT s t ∧ NB s ∧ s.1 16 ∈ fl t
theorem AFT.x {ey ef : List Nat} {s w : SM} {t : Term} (h : AFT s t) (hx : SX ey ef s w) (hy : 2 ∉ ey ∧ 8 ∉ ey ∧ 15 ∉ ey ∧ 16 ∉ ey) (hf : 9 ∉ ef ∧ 10 ∉ ef ∧ 11 ∉ ef ∧ 12 ∉ ef ∧ 13 ∉ ef ∧ 14 ∉ ef) : AFT w t :=
  ⟨h.1.x hx ⟨hy.2.1, hy.2.2.1⟩ ⟨hf.1, hf.2.2.2⟩, h.2.1.x hx h.1.2.2.2.2.1.2 ⟨hy.1, hy.2.1⟩ ⟨hf.1, hf.2.1, hf.2.2.1⟩, by rw [hx.1 16 (by decide) hy.2.2.2]; exact h.2.2⟩
def nodOk (s : SM) (x : Int) : Prop := (0 ≤ s.2 9 x ∧ s.2 9 x < 16) ∧ ((s.2 9 x = 3 ∨ s.2 9 x = 8 ∨ s.2 9 x = 10) → 0 ≤ s.2 10 x ∧ s.2 10 x < 26) ∧ (s.2 9 x = 2 → s.2 10 x = 0 ∨ s.2 10 x = 1) ∧ ((s.2 9 x = 8 ∨ s.2 9 x = 15) → 0 ≤ s.2 11 x ∧ s.2 11 x < s.1 2)
theorem NB_new {s w : SM} (h : NB s) (h2 : w.1 2 = s.1 2) (ho : ∀ y, 0 ≤ y → y < s.1 8 → w.2 9 y = s.2 9 y ∧ w.2 10 y = s.2 10 y ∧ w.2 11 y = s.2 11 y) (hn : ∀ y, s.1 8 ≤ y → y < w.1 8 → nodOk w y) : NB w := fun x x0 x1 => by
  by_cases e : x < s.1 8
  · obtain ⟨e1, e2, e3⟩ := ho x x0 e
    rw [e1, e2, e3, h2]
    exact h x x0 e
  · exact hn x (by omega) x1
theorem nodOk_hole {w : SM} {x : Int} (h : w.2 9 x = 0) : nodOk w x := by
  unfold nodOk
  rw [h]
  exact ⟨by decide, fun q => by omega, fun q => by omega, fun q => by omega⟩
section
variable {s : SM} {t : Term}
theorem wri_aft {v : Int} (h : AFT s t) (hg : wriOk s v) : AFT (ua s 10 (s.1 16) v) t := by
  obtain ⟨h1, h2, h3⟩ := h
  refine ⟨?_, fun x x0 x1 => ?_, h3⟩
  · exact h1
  · have hn := h2 x x0 x1
    show (0 ≤ s.2 9 x ∧ s.2 9 x < 16) ∧ ((s.2 9 x = 3 ∨ s.2 9 x = 8 ∨ s.2 9 x = 10) → 0 ≤ (ua s 10 (s.1 16) v).2 10 x ∧ (ua s 10 (s.1 16) v).2 10 x < 26) ∧ (s.2 9 x = 2 → (ua s 10 (s.1 16) v).2 10 x = 0 ∨ (ua s 10 (s.1 16) v).2 10 x = 1) ∧ ((s.2 9 x = 8 ∨ s.2 9 x = 15) → 0 ≤ s.2 11 x ∧ s.2 11 x < s.1 2)
    rw [ua_2]
    by_cases e : x = s.1 16
    · rw [if_pos ⟨rfl, e⟩]
      obtain ⟨g1, g2, g3⟩ := hg
      rw [← e] at g1 g2 g3
      exact ⟨hn.1, fun q => by omega, fun q => by omega, hn.2.2.2⟩
    · rw [if_neg (by omega)]
      exact hn
theorem sq_in (h : SHT s t) {c y : Int} (hc : c ∈ fl t) (hy : y ∈ fl (sq c t)) : 0 ≤ y ∧ y < s.1 8 := by
  obtain ⟨a1, a2, a3, a4, a5, a6, a7⟩ := sq_ok h.1 h.2.1 h.2.2.1 hc
  have := h.lt (a4 y hy)
  omega
theorem len_rp (h : SHT s t) {c : Int} (hc : c ∈ fl t) (u : Term) : (fl (rpT c u t)).length + (fl (sq c t)).length = (fl t).length + (fl u).length ∧ ∀ y, y ∈ fl u → y ∈ fl (rpT c u t) := by
  obtain ⟨a, z, e1, e2, -⟩ := rpT_fl h.1 h.2.2.1 hc
  refine ⟨?_, fun y hy => by rw [e2]; simp [hy]⟩
  rw [e2]
  conv => rhs; rw [e1]
  simp only [List.length_append]
  omega
theorem sq_pos (h : SHT s t) {c : Int} (hc : c ∈ fl t) : 1 ≤ (fl (sq c t)).length := by
  obtain ⟨a1, a2, a3, a4, a5, a6, a7⟩ := sq_ok h.1 h.2.1 h.2.2.1 hc
  exact List.length_pos_of_mem (hd_mem _ a1)
/-- a new node in the place of c, nothing on it yet -/
theorem new_in (h : SHT s t) {so v k c : Int} (hc : c ∈ fl t) (hso : 0 ≤ so ∧ so < 16) : ATs (replU (bornU s so v k) c (s.1 8)) (.index (s.1 8).toNat) ∧ (replU (bornU s so v k) c (s.1 8)).1 8 = s.1 8 + 1 ∧ ((replU (bornU s so v k) c (s.1 8)).2 9 (s.1 8) = so ∧ (replU (bornU s so v k) c (s.1 8)).2 10 (s.1 8) = nvl so v ∧ (replU (bornU s so v k) c (s.1 8)).2 11 (s.1 8) = kvl so k) ∧
    (∀ y, y < s.1 8 → ((replU (bornU s so v k) c (s.1 8)).2 9 y = s.2 9 y ∧ (replU (bornU s so v k) c (s.1 8)).2 10 y = s.2 10 y ∧ (replU (bornU s so v k) c (s.1 8)).2 11 y = s.2 11 y) ∧ ((replU (bornU s so v k) c (s.1 8)).2 12 y = s.2 12 y ∧ (replU (bornU s so v k) c (s.1 8)).2 13 y = s.2 13 y) ∧ ∀ i, 3 * y + i ≠ 3 * s.2 12 c + s.2 13 c → (replU (bornU s so v k) c (s.1 8)).2 14 (3 * y + i) = s.2 14 (3 * y + i)) ∧
    (((replU (bornU s so v k) c (s.1 8)).2 12 (s.1 8) = s.2 12 c ∧ (replU (bornU s so v k) c (s.1 8)).2 13 (s.1 8) = s.2 13 c) ∧ (c ≠ hd t → (replU (bornU s so v k) c (s.1 8)).2 14 (3 * s.2 12 c + s.2 13 c) = s.1 8) ∧ (replU (bornU s so v k) c (s.1 8)).1 15 = if c = hd t then s.1 8 else s.1 15) := by
  have hB := h.2.2.2.2.1
  have e8 : (((s.1 8).toNat : Nat) : Int) = s.1 8 := by omega
  obtain ⟨r1, r2, r3, r4, r5⟩ := replU_in (b := s.1 8) h hc (show (bornU s so v k).2 12 c = s.2 12 c by rw [bornU_e.2 12 (by decide)]) (show (bornU s so v k).2 13 c = s.2 13 c by rw [bornU_e.2 13 (by decide)])
  obtain ⟨d1, d2, d3⟩ := bornU_at (s := s) (so := so) (v := v) (k := k)
  have n8 : (replU (bornU s so v k) c (s.1 8)).1 8 = s.1 8 + 1 := by rw [replU_e.1 8 (by decide), bornU_8]
  have n9 := replU_e.2 9 (by decide) ▸ (rfl : (replU (bornU s so v k) c (s.1 8)).2 9 = (replU (bornU s so v k) c (s.1 8)).2 9)
  refine ⟨⟨?_, ?_⟩, n8, ⟨?_, ?_, ?_⟩, fun y hy => ⟨⟨?_, ?_, ?_⟩, ⟨?_, ?_⟩, fun i hi => ?_⟩, r1, r2, ?_⟩
  · rw [e8, n8]; omega
  · rw [e8, replU_e.2 9 (by decide), d1]; exact hso
  · rw [replU_e.2 9 (by decide)]; exact d1
  · rw [replU_e.2 10 (by decide)]; exact d2
  · rw [replU_e.2 11 (by decide)]; exact d3
  · rw [replU_e.2 9 (by decide)]; exact (bornU_o y hy).1.1
  · rw [replU_e.2 10 (by decide)]; exact (bornU_o y hy).1.2.1
  · rw [replU_e.2 11 (by decide)]; exact (bornU_o y hy).1.2.2
  · rw [(r4 y (by omega)).1, bornU_e.2 12 (by decide)]
  · rw [(r4 y (by omega)).2, bornU_e.2 13 (by decide)]
  · rw [r5 _ hi, bornU_e.2 14 (by decide)]
  · rw [r3, bornU_e.1 15 (by decide)]
theorem take_aft (h : AFT s t) (hg : tkOk s) : AFT (tkU s) (tkT s t) := by
  obtain ⟨h1, h2, h3⟩ := h
  have hB := h1.2.2.2.2.1
  have h8 : s.1 8 < 3000 := by have := hg.2; omega
  have e8 : (((s.1 8).toNat : Nat) : Int) = s.1 8 := by omega
  obtain ⟨n1, n2, n3, n4, n5, n6, n7⟩ := new_in (so := 0) (v := -9) (k := -9) h1 h3 (by decide)
  have hl := len_rp h1 h3 (.index (s.1 8).toNat)
  have hp := sq_pos h1 h3
  have hll := h1.2.2.2.1
  have f1 : (fl (Term.index (s.1 8).toNat)).length = 1 := rfl
  refine ⟨SHT_rp (w := tkU s) h1 h3 ⟨?_, ?_⟩ n1 ?_ ?_ (fun y hy hyt => ?_) (fun y hy _ => ?_) ?_ ?_ ?_ (by omega), NB_new h2 ?_ (fun y y0 y1 => (n4 y y1).1) (fun y y0 y1 => ?_), ?_⟩
  · show s.1 8 ≤ (replU _ _ _).1 8; omega
  · show (replU _ _ _).1 8 ≤ 3000; omega
  · show (0 : Int) = pO ((replU (bornU s 0 (-9) (-9)) (s.1 16) (s.1 8)).2 9 (((s.1 8).toNat : Nat) : Int))
    rw [e8, n3.1]; rfl
  · simp [fl]
  · have := List.mem_singleton.mp hy
    have := h1.lt hyt
    omega
  · have hy2 := h1.lt hy
    obtain ⟨a1, a2, a3⟩ := n4 y hy2.2.1
    exact ⟨a1.1, a2.1, a2.2, fun i _ _ hi => a3 i hi⟩
  · show (replU _ _ _).2 12 (((s.1 8).toNat : Nat) : Int) = _ ∧ (replU _ _ _).2 13 (((s.1 8).toNat : Nat) : Int) = _
    rw [e8]; exact n5
  · intro q
    show (replU _ _ _).2 14 _ = (((s.1 8).toNat : Nat) : Int)
    rw [e8]; exact n6 q
  · show (replU _ _ _).1 15 = if _ then (((s.1 8).toNat : Nat) : Int) else _
    rw [e8]; exact n7
  · exact (replU_e.1 2 (by decide)).trans (bornU_e.1 2 (by decide))
  · have : y < (replU (bornU s 0 (-9) (-9)) (s.1 16) (s.1 8)).1 8 := y1
    obtain rfl : y = s.1 8 := by omega
    exact nodOk_hole n3.1
  · show s.1 8 ∈ _
    exact hl.2 _ (by show s.1 8 ∈ [(((s.1 8).toNat : Nat) : Int)]; rw [e8]; simp)
theorem unwrap_aft {i : Int} (h : AFT s t) (hg : uwOk s i) : AFT (uwU s i) (uwT s t i) := by
  obtain ⟨h1, h2, h3⟩ := h
  obtain ⟨a1, a2, a3, a4, a5, a6, a7⟩ := sq_ok h1.1 h1.2.1 h1.2.2.1 h3
  have hna : i < na (sq (s.1 16) t) := by
    unfold full at a2
    rw [a2, a3]
    exact hg.2
  obtain ⟨p1, p2, p3, p4, p5, p6, p7, p8, p9⟩ := prt_ok _ a1 a5 hg.1 hna
  rw [a3] at p3 p5 p8
  have hup := sq_up h1 h3
  have hl := len_rp h1 h3 (prt i (sq (s.1 16) t))
  have hll := h1.2.2.2.1
  have hpm := hd_mem _ p1
  obtain ⟨r1, r2, r3, r4, r5⟩ := replU_in (b := s.2 14 (3 * s.1 16 + i)) h1 h3 rfl rfl
  have e8 : (uwU s i).1 8 = s.1 8 := replU_e.1 8 (by decide)
  have e9 : (uwU s i).2 9 = s.2 9 := replU_e.2 9 (by decide)
  refine ⟨SHT_rp (w := uwU s i) h1 h3 (by rw [e8]; exact ⟨Int.le_refl _, h1.2.2.2.2.1.2⟩) ?_ ?_ p6 (fun y hy _ => p4 y hy) (fun y hy hyn => ?_) ?_ ?_ ?_ (by omega), fun x x0 x1 => ?_, ?_⟩
  · refine AT_cg (by rw [e8]; exact Int.le_refl _) _ p1 p6 (fun x hx => ⟨by rw [e9], fun j j0 j1 _ => ?_⟩) (fun x hx hne => ?_)
    · refine r5 _ (fun q => ?_)
      have := pO_in (s.2 9 x)
      have hx2 := p4 x hx
      rcases up_in h1 h3 with e | e
      · have := h1.lt (a4 x hx2)
        have e13 : s.1 16 = hd t := Classical.byContradiction fun q => by
          have := h1.lt ((AT_mem t h1.1 _ h3).2.2.2 q).1
          omega
        have := h1.2.2.2.2.2.2.2
        rw [← e13] at this
        omega
      · have : x = s.2 12 (s.1 16) := by omega
        exact hup (by rw [← this]; exact hx2)
    · rw [p3] at hne
      exact r4 x hne
  · unfold full
    rw [e9]
    exact p2
  · have hy2 := h1.lt hy
    have hne : y ≠ s.2 14 (3 * s.1 16 + i) := fun q => hyn (p4 y (by rw [q, ← p3]; exact hpm))
    exact ⟨by rw [e9], (r4 y hne).1, (r4 y hne).2, fun j j0 j3 hj => r5 _ hj⟩
  · rw [p3]; exact r1
  · rw [p3]; exact r2
  · rw [p3]; exact r3
  · rw [e8] at x1
    rw [e9, show (uwU s i).2 10 = s.2 10 from replU_e.2 10 (by decide), show (uwU s i).2 11 = s.2 11 from replU_e.2 11 (by decide), show (uwU s i).1 2 = s.1 2 from replU_e.1 2 (by decide)]
    exact h2 x x0 x1
  · show s.2 14 (3 * s.1 16 + i) ∈ _
    rw [← p3]
    exact hl.2 _ hpm
theorem adds_len (m B : Nat) (u : Term) : (fl (adds m B u)).length = (fl u).length + m := by
  rw [adds_fl]; simp
theorem adds_mem {m B : Nat} {u : Term} {y : Int} (h : y ∈ fl (adds m B u)) : y ∈ fl u ∨ ((B : Int) ≤ y ∧ y < B + m) := by
  rw [adds_fl] at h
  rcases List.mem_append.mp h with h | h
  · exact Or.inl h
  · obtain ⟨z, h1, h2⟩ := List.mem_map.mp h
    obtain ⟨h3, h4⟩ := List.mem_range'_1.mp h1
    right
    rw [← h2]
    show (B : Int) ≤ (z : Int) ∧ (z : Int) < B + m
    omega
theorem put_aft {so v k : Int} (h : AFT s t) (hg : putOk s t so v k) : AFT (putU s so v k) (putT s t so) := by
  obtain ⟨h1, h2, h3⟩ := h
  have hB := h1.2.2.2.2.1
  have hll := h1.2.2.2.1
  obtain ⟨⟨g1, g2, g3, g4⟩, g5, g6, g7⟩ := hg
  have hpo := pO_in so
  have h8 : s.1 8 < 3000 := by unfold pfr at g7; split at g7 <;> omega
  have e8 : (((s.1 8).toNat : Nat) : Int) = s.1 8 := by omega
  have hct := h1.lt h3
  obtain ⟨n1, n2, n3, n4, n5, n6, n7⟩ := new_in (so := so) (v := v) (k := k) h1 h3 (by omega)
  have hp := sq_pos h1 h3
  -- what the new node bears is right
  have nok : ∀ w : SM, w.2 9 (s.1 8) = so → w.2 10 (s.1 8) = nvl so v → w.2 11 (s.1 8) = kvl so k → w.1 2 = s.1 2 → nodOk w (s.1 8) := fun w w9 w10 w11 w2 => by
    unfold nodOk
    rw [w9, w10, w11, w2]
    unfold nvl kvl
    refine ⟨by omega, fun q => ?_, fun q => ?_, fun q => ?_⟩
    · rw [if_pos (by omega)]; have := g3 q; omega
    · rw [if_pos (by omega)]; have := g2 q; omega
    · rw [if_pos q]; exact g4 q
  -- the cells behind all of it, out of those behind the new node's coming
  have fin : ∀ (x : SM) (u : Term) (m : Nat) (i : Int), x.1 8 = s.1 8 + 1 → ATs x u → (fl u).Nodup → hd u = s.1 8 → na u = i → i + m = pO so → (x.2 9 (s.1 8) = so ∧ x.2 10 (s.1 8) = nvl so v ∧ x.2 11 (s.1 8) = kvl so k) → (x.2 12 (s.1 8) = s.2 12 (s.1 16) ∧ x.2 13 (s.1 8) = s.2 13 (s.1 16)) → (s.1 16 ≠ hd t → x.2 14 (3 * s.2 12 (s.1 16) + s.2 13 (s.1 16)) = s.1 8) → (x.1 15 = if s.1 16 = hd t then s.1 8 else s.1 15) → x.1 2 = s.1 2 →
      (∀ y, 0 ≤ y → y < s.1 8 → x.2 9 y = s.2 9 y ∧ x.2 10 y = s.2 10 y ∧ x.2 11 y = s.2 11 y) → (∀ y, y ∈ fl t → y ∉ fl (sq (s.1 16) t) → (x.2 12 y = s.2 12 y ∧ x.2 13 y = s.2 13 y) ∧ ∀ i, 0 ≤ i → i < 3 → 3 * y + i ≠ 3 * s.2 12 (s.1 16) + s.2 13 (s.1 16) → x.2 14 (3 * y + i) = s.2 14 (3 * y + i)) → (∀ y, y ∈ fl u → y ∈ fl t → y ∈ fl (sq (s.1 16) t)) → ((fl u).length + m + (fl t).length ≤ 60 + (fl (sq (s.1 16) t)).length) → s.1 8 + 1 + m ≤ 3000 →
      AFT (us (hlsU (s.1 8) m i x) 16 (s.1 8)) (rpT (s.1 16) (adds m ((s.1 8).toNat + 1) u) t) := by
    intro x u m i x8 xu xn xh xa xi x9 xup xpa xt x2 xo xf xd xl xb
    obtain ⟨q1, q2, q3, q4, q5, q6, q7⟩ := hlsU_ok m i x u xu xn xh xa (by rw [x9.1]; exact xi) (by omega)
    have t8 : (x.1 8).toNat = (s.1 8).toNat + 1 := by omega
    rw [t8] at q1 q2
    have ah := adds_hd m ((s.1 8).toNat + 1) u
    have hl := len_rp h1 h3 (adds m ((s.1 8).toNat + 1) u)
    rw [adds_len] at hl
    have old : ∀ y, 0 ≤ y → y < s.1 8 → (hlsU (s.1 8) m i x).2 9 y = s.2 9 y ∧ (hlsU (s.1 8) m i x).2 10 y = s.2 10 y ∧ (hlsU (s.1 8) m i x).2 11 y = s.2 11 y := fun y y0 y1 => by
      obtain ⟨⟨c1, c2, c3⟩, -⟩ := q4 y ⟨by omega, by omega⟩
      obtain ⟨d1, d2, d3⟩ := xo y y0 y1
      exact ⟨c1.trans d1, c2.trans d2, c3.trans d3⟩
    refine ⟨SHT_rp (w := us (hlsU (s.1 8) m i x) 16 (s.1 8)) h1 h3 ⟨?_, ?_⟩ q1 ?_ q2 (fun y hy hyt => ?_) (fun y hy hyn => ?_) ?_ (fun q => ?_) ?_ (by omega), NB_new h2 ?_ old (fun y y0 y1 => ?_), ?_⟩
    · show s.1 8 ≤ (hlsU (s.1 8) m i x).1 8; omega
    · show (hlsU (s.1 8) m i x).1 8 ≤ 3000; omega
    · show na (adds m ((s.1 8).toNat + 1) u) = pO ((hlsU (s.1 8) m i x).2 9 (hd (adds m ((s.1 8).toNat + 1) u)))
      rw [ah.1, ah.2, xh, q6.1, x9.1, xa]
      exact xi
    · rcases adds_mem hy with q | q
      · exact xd y q hyt
      · have := h1.lt hyt
        omega
    · have hy2 := h1.lt hy
      obtain ⟨c1, c2⟩ := xf y hy hyn
      obtain ⟨c3, c4, c5⟩ := q4 y ⟨by omega, by omega⟩
      exact ⟨(old y hy2.1 hy2.2.1).1, c4.1.trans c1.1, c4.2.trans c1.2, fun j j0 j3 hj => (c5 j j0 j3).trans (c2 j j0 j3 hj)⟩
    · rw [ah.1, xh]
      exact ⟨q6.2.2.2.1.trans xup.1, q6.2.2.2.2.trans xup.2⟩
    · rw [ah.1, xh]
      obtain ⟨u1, u2, u3⟩ := (AT_mem t h1.1 _ h3).2.2.2 q
      have ul := h1.lt u1
      have := pO_in (s.2 9 (s.2 12 (s.1 16)))
      exact ((q4 (s.2 12 (s.1 16)) ⟨by omega, by omega⟩).2.2 _ u2.1 (by omega)).trans (xpa q)
    · rw [ah.1, xh]
      exact (q5.1 15 (by decide)).trans xt
    · exact (q5.1 2 (by decide)).trans x2
    · have y1 : y < (hlsU (s.1 8) m i x).1 8 := y1
      by_cases e : y = s.1 8
      · rw [e]
        exact nok _ (q6.1.trans x9.1) (q6.2.1.trans x9.2.1) (q6.2.2.1.trans x9.2.2) ((q5.1 2 (by decide)).trans x2)
      · exact nodOk_hole (q7 y (by omega) (by omega)).1
    · show s.1 8 ∈ _
      have hm := hd_mem _ q1
      rw [ah.1, xh] at hm
      exact hl.2 _ hm
  have x2 : (replU (bornU s so v k) (s.1 16) (s.1 8)).1 2 = s.1 2 := (replU_e.1 2 (by decide)).trans (bornU_e.1 2 (by decide))
  by_cases ho : s.2 9 (s.1 16) = 0
  · have eU : putU s so v k = us (hlsU (s.1 8) (pO so).toNat 0 (replU (bornU s so v k) (s.1 16) (s.1 8))) 16 (s.1 8) := by unfold putU; rw [if_pos ho]
    have eT : putT s t so = rpT (s.1 16) (adds (pO so).toNat ((s.1 8).toNat + 1) (.index (s.1 8).toNat)) t := by unfold putT; rw [if_pos ho]
    unfold pfr at g7
    rw [if_pos ho] at g7
    rw [eU, eT]
    refine fin _ _ _ 0 n2 n1 (by simp [fl]) e8 rfl (by omega) n3 n5 n6 n7 x2 (fun y _ y1 => (n4 y y1).1) (fun y hy _ => ?_) (fun y hy hyt => ?_) (by show 1 + _ + _ ≤ _; omega) (by omega)
    · obtain ⟨c1, c2, c3⟩ := n4 y (h1.lt hy).2.1
      exact ⟨c2, fun i _ _ hi => c3 i hi⟩
    · have := List.mem_singleton.mp hy
      have := h1.lt hyt
      omega
  · have eU : putU s so v k = us (hlsU (s.1 8) (pO so - 1).toNat 1 (partU (replU (bornU s so v k) (s.1 16) (s.1 8)) (s.1 8) 0 (s.1 16))) 16 (s.1 8) := by unfold putU; rw [if_neg ho]
    have eT : putT s t so = rpT (s.1 16) (adds (pO so - 1).toNat ((s.1 8).toNat + 1) (.add (.index (s.1 8).toNat) (sq (s.1 16) t))) t := by unfold putT; rw [if_neg ho]
    unfold pfr at g7
    rw [if_neg ho] at g7
    have hn1 : 1 ≤ pO so := by omega
    rw [eU, eT]
    obtain ⟨a1, a2, a3, a4, a5, a6, a7⟩ := sq_ok h1.1 h1.2.1 h1.2.2.1 h3
    have hup := sq_up h1 h3
    have hO := partU_o (s := replU (bornU s so v k) (s.1 16) (s.1 8)) (b := s.1 8) (i := 0) (c := s.1 16) (by decide)
    have pe := partU_e (s := replU (bornU s so v k) (s.1 16) (s.1 8)) (b := s.1 8) (i := 0) (c := s.1 16)
    obtain ⟨pa1, pa2, pa3⟩ := partU_at (s := replU (bornU s so v k) (s.1 16) (s.1 8)) (b := s.1 8) (i := 0) (c := s.1 16)
    have w9 : ∀ y, y < s.1 8 → (partU (replU (bornU s so v k) (s.1 16) (s.1 8)) (s.1 8) 0 (s.1 16)).2 9 y = s.2 9 y := fun y hy => by rw [pe.2 9 (by decide)]; exact (n4 y hy).1.1
    -- cells of parts, of those born before
    have w14 : ∀ y i, 0 ≤ i → i < 3 → y < s.1 8 → 3 * y + i ≠ 3 * s.2 12 (s.1 16) + s.2 13 (s.1 16) → (partU (replU (bornU s so v k) (s.1 16) (s.1 8)) (s.1 8) 0 (s.1 16)).2 14 (3 * y + i) = s.2 14 (3 * y + i) := fun y i i0 i3 hy hi => by
      show (partU _ _ _ _).2 14 _ = _
      unfold partU
      rw [ua_2, if_neg (by omega), ua_2, if_neg (by omega), ua_2, if_neg (by omega)]
      exact (n4 y hy).2.2 i hi
    have w1213 : ∀ y, y ≠ s.1 16 → (partU (replU (bornU s so v k) (s.1 16) (s.1 8)) (s.1 8) 0 (s.1 16)).2 12 y = (replU (bornU s so v k) (s.1 16) (s.1 8)).2 12 y ∧ (partU (replU (bornU s so v k) (s.1 16) (s.1 8)) (s.1 8) 0 (s.1 16)).2 13 y = (replU (bornU s so v k) (s.1 16) (s.1 8)).2 13 y := fun y hy => by
      simp [partU, ua_2, hy]
    have hc8 : s.1 16 ≠ s.1 8 := by omega
    refine fin _ _ _ 1 n2 ⟨⟨by rw [e8]; show s.1 8 < (replU _ _ _).1 8; omega, ?_⟩, ?_, ?_, ?_, ?_, ?_, ?_⟩ ?_ e8 rfl (by omega) ?_ ?_ (fun q => ?_) n7 x2 (fun y _ y1 => ?_) (fun y hy hyn => ?_) (fun y hy hyt => ?_) ?_ (by omega)
    · rw [e8, pe.2 9 (by decide), n3.1]; omega
    · refine AT_cg (by show s.1 8 ≤ (replU _ _ _).1 8; omega) _ a1 a5 (fun x hx => ⟨w9 x (h1.lt (a4 x hx)).2.1, fun j j0 j1 _ => ?_⟩) (fun x hx hne => ?_)
      · have := pO_in (s.2 9 x)
        refine w14 x j j0 (by omega) (h1.lt (a4 x hx)).2.1 (fun q => ?_)
        rcases up_in h1 h3 with e | e
        · have := h1.lt (a4 x hx)
          have e13 : s.1 16 = hd t := Classical.byContradiction fun q => by
            have := h1.lt ((AT_mem t h1.1 _ h3).2.2.2 q).1
            omega
          have := h1.2.2.2.2.2.2.2
          rw [← e13] at this
          omega
        · have : x = s.2 12 (s.1 16) := by omega
          exact hup (by rw [← this]; exact hx)
      · rw [a3] at hne
        obtain ⟨c1, c2⟩ := w1213 x hne
        obtain ⟨-, c3, -⟩ := n4 x (h1.lt (a4 x hx)).2.1
        exact ⟨c1.trans c3.1, c2.trans c3.2⟩
    · unfold full at a2 ⊢
      rw [a2, a3, w9 _ hct.2.1]
    · show (0 : Int) < pO ((partU _ _ _ _).2 9 (((s.1 8).toNat : Nat) : Int))
      rw [e8, pe.2 9 (by decide), n3.1]; omega
    · show (partU _ _ _ _).2 14 (3 * (((s.1 8).toNat : Nat) : Int) + 0) = _
      rw [e8, a3]; exact pa1
    · rw [a3, show hd (Term.index (s.1 8).toNat) = s.1 8 from e8]; exact pa2
    · rw [a3]; exact pa3
    · refine List.nodup_append.mpr ⟨by simp [fl], a5, fun x hx y hy e => ?_⟩
      have := List.mem_singleton.mp hx
      have := h1.lt (a4 y hy)
      omega
    · rw [pe.2 9 (by decide), pe.2 10 (by decide), pe.2 11 (by decide)]; exact n3
    · obtain ⟨c1, c2⟩ := w1213 (s.1 8) (Ne.symm hc8)
      exact ⟨c1.trans n5.1, c2.trans n5.2⟩
    · obtain ⟨u1, u2, u3⟩ := (AT_mem t h1.1 _ h3).2.2.2 q
      have ul := h1.lt u1
      have := pO_in (s.2 9 (s.2 12 (s.1 16)))
      show (partU _ _ _ _).2 14 _ = _
      unfold partU
      rw [ua_2, if_neg (by omega), ua_2, if_neg (by omega), ua_2, if_neg (by omega)]
      exact n6 q
    · rw [pe.2 9 (by decide), pe.2 10 (by decide), pe.2 11 (by decide)]; exact (n4 y y1).1
    · have hyl := h1.lt hy
      have hne : y ≠ s.1 16 := fun q => hyn (by rw [q]; have := hd_mem _ a1; rw [a3] at this; exact this)
      obtain ⟨c1, c2⟩ := w1213 y hne
      obtain ⟨-, c3, -⟩ := n4 y hyl.2.1
      exact ⟨⟨c1.trans c3.1, c2.trans c3.2⟩, fun i i0 i3 hi => w14 y i i0 i3 hyl.2.1 hi⟩
    · rcases List.mem_append.mp hy with q | q
      · have := List.mem_singleton.mp q
        have := h1.lt hyt
        omega
      · exact q
    · have : (fl (Term.add (.index (s.1 8).toNat) (sq (s.1 16) t))).length = 1 + (fl (sq (s.1 16) t)).length := by show ([_] ++ fl (sq (s.1 16) t)).length = _; simp; omega
      omega
end
end
section
/-! undo(). -/
def undU (s : SM) (u : Snap) : SM := (fun y => if y = 15 then hd u.1 else if y = 16 then u.2.1 16 else if y = 35 then 1 else s.1 y, fun f y => if f = 10 ∧ y ∈ fl u.1 then u.2.2 10 y else s.2 f y)
/-- halfway: some nodes are as they were, some links are made again -/
def UM (s x : SM) (u : Snap) (p : List Int) (P : Int → Prop) : Prop := eqx [24] [10, 12, 13, 14] s x ∧ (∀ y, x.2 10 y = if y ∈ p then u.2.2 10 y else s.2 10 y) ∧ (∀ y, P y → x.2 12 y = u.2.2 12 y ∧ x.2 13 y = u.2.2 13 y) ∧ (∀ y, y ∈ p → ∀ j, 0 ≤ j → j < pO (s.2 9 y) → x.2 14 (3 * y + j) = u.2.2 14 (3 * y + j))
section
variable {iv : List (Int × Int)} {L : Nat} {h0 : MH} {s : SM} {t : Term} {d : Nat}
theorem undo_ok {F : Int → SM → Prop} {K : List Snap} (hK : KL s K) (hB : 0 ≤ s.1 8 ∧ s.1 8 ≤ 3000) (H1 : K = [] → F (-4) s) (H2 : ∀ (K0 : List Snap) (u : Snap) (v : SM), K = K0 ++ [u] → SX [24] [12, 13, 14] (undU s u) v → SHT v u.1 → KL v K0 → F K0.length v) : cm iv L h0 (d + 1) 101 [vr 307] s (qi F) := by
  obtain ⟨k1, k2, k3⟩ := id hK
  refine B101 ⟨fun e => ?_, fun e => H1 (List.length_eq_zero_iff.mp (by omega))⟩
  have hlen : 0 < K.length := by omega
  obtain ⟨K0, u, rfl⟩ : ∃ K0 u, K = K0 ++ [u] := ⟨K.dropLast, K.getLast (fun q => by rw [q] at hlen; exact absurd hlen (by decide)), (List.dropLast_concat_getLast _).symm⟩
  have hl : (K0 ++ [u]).length = K0.length + 1 := by simp
  have e24 : s.1 24 - 1 = K0.length := by omega
  obtain ⟨⟨r1, r2, r3⟩, hP⟩ := k3 K0.length u (by simp)
  obtain ⟨⟨p1, p2, p3, p4⟩, p5, p6, p7, p8⟩ := hP
  refine ⟨by omega, ?_⟩
  rw [e24]
  have hmem := AT_mem u.1 p1
  -- what is written of a node's place among the births
  have hfin : ∀ x, UM s x u (fl u.1) (fun y => y ∈ fl u.1 ∧ y ≠ hd u.1) → x.1 24 = K0.length → F K0.length (us (us (ua (ua (us x 15 (hd u.1)) 12 (hd u.1) (-9)) 13 (hd u.1) (-9)) 16 (u.2.1 16)) 35 1) := fun x hx h24 => by
    obtain ⟨x1, x2, x3, x4⟩ := hx
    refine H2 K0 u _ rfl ⟨fun y a1 a2 => ?_, fun f a1 a2 i a3 => ?_⟩ ?_ ?_
    · show (if y = 35 then 1 else if y = 16 then u.2.1 16 else if y = 15 then hd u.1 else x.1 y) = if y = 15 then hd u.1 else if y = 16 then u.2.1 16 else if y = 35 then 1 else s.1 y
      rw [x1.1 y a2]
      by_cases e1 : y = 35
      · subst e1; rfl
      · rw [if_neg e1]
        by_cases e2 : y = 16
        · subst e2; rfl
        · rw [if_neg e2, if_neg e2, if_neg e1]
    · simp at a2
      show (us (us (ua (ua (us x 15 (hd u.1)) 12 (hd u.1) (-9)) 13 (hd u.1) (-9)) 16 (u.2.1 16)) 35 1).2 f i = if f = 10 ∧ i ∈ fl u.1 then u.2.2 10 i else s.2 f i
      simp only [us_2, ua_2]
      rw [if_neg (by omega), if_neg (by omega)]
      by_cases e1 : f = 10
      · subst e1
        rw [x2]
        by_cases e2 : i ∈ fl u.1
        · rw [if_pos e2, if_pos ⟨rfl, e2⟩]
        · rw [if_neg e2, if_neg (fun q => e2 q.2)]
      · rw [if_neg (fun q => e1 q.1), x1.2 f (by simp; omega)]
    · have hm := hd_mem _ p1
      have e8 : x.1 8 = s.1 8 := x1.1 8 (by decide)
      have e9 : x.2 9 = s.2 9 := x1.2 9 (by decide)
      refine ⟨AT_cg (by show s.1 8 ≤ x.1 8; omega) _ p1 p3 (fun y hy => ⟨?_, fun j j0 j1 _ => ?_⟩) (fun y hy hne => ?_), ?_, p3, p4, by show 0 ≤ x.1 8 ∧ x.1 8 ≤ 3000; omega, rfl, ?_, ?_⟩
      · show x.2 9 y = s.2 9 y
        rw [e9]
      · exact x4 y hy j j0 j1
      · simp only [us_2, ua_2]
        rw [if_neg (by omega), if_neg (by omega), if_neg (by omega), if_neg (by omega)]
        exact x3 y ⟨hy, hne⟩
      · show na u.1 = pO (x.2 9 (hd u.1))
        rw [e9]
        exact p2
      · simp [us_2, ua_2]
      · simp [us_2, ua_2]
    · refine ⟨h24, by have := k2; omega, fun i w hi => ?_⟩
      obtain ⟨q1, q2⟩ := k3 i w (by rw [List.getElem?_append_left (List.getElem?_eq_some_iff.mp hi).1]; exact hi)
      have e9 : x.2 9 = s.2 9 := x1.2 9 (by decide)
      have rr : ∀ f, f ≠ 10 ∧ f ≠ 12 ∧ f ≠ 13 ∧ f ≠ 14 → (us (us (ua (ua (us x 15 (hd u.1)) 12 (hd u.1) (-9)) 13 (hd u.1) (-9)) 16 (u.2.1 16)) 35 1).2 f = s.2 f := fun f hf => by
        funext j
        simp only [us_2, ua_2]
        rw [if_neg (by omega), if_neg (by omega), x1.2 f (by simp; omega)]
      refine ⟨KR_cg q1 q2.1.2.2.2 (by rw [rr 25 (by decide)]) (by rw [rr 26 (by decide)]) (fun y _ => by rw [rr 9 (by decide)]) (fun j _ _ => ⟨by rw [rr 27 (by decide)], by rw [rr 28 (by decide)]⟩) (fun j _ _ => by rw [rr 29 (by decide)]), KP_up q2 (by show s.1 8 ≤ x.1 8; rw [x1.1 8 (by decide)]; exact Int.le_refl _) (fun y _ _ => by rw [rr 9 (by decide)])⟩
  -- the links of one node
  have inner : ∀ (p m : List Int) (b : Int) (G : SM → Prop), fl u.1 = p ++ b :: m → (∀ x, UM s x u (p ++ [b]) (fun y => y ∈ fl u.1 ∧ y ≠ hd u.1 ∧ u.2.2 12 y ∈ p ++ [b]) → x.1 24 = K0.length → wm iv L h0 (d + 1) 101 22 [lr 307, li (p.length + 1)] [] x (qi F)) →
      ∀ (n : Nat) (i : Int) (x : SM), 0 ≤ i → i + n = pO (s.2 9 b) → eqx [24] [10, 12, 13, 14] s x → (∀ y, x.2 10 y = if y ∈ p ++ [b] then u.2.2 10 y else s.2 10 y) → (∀ y, (y ∈ fl u.1 ∧ y ≠ hd u.1 ∧ (u.2.2 12 y ∈ p ∨ (u.2.2 12 y = b ∧ u.2.2 13 y < i))) → x.2 12 y = u.2.2 12 y ∧ x.2 13 y = u.2.2 13 y) → (∀ y, y ∈ p → ∀ j, 0 ≤ j → j < pO (s.2 9 y) → x.2 14 (3 * y + j) = u.2.2 14 (3 * y + j)) → (∀ j, 0 ≤ j → j < i → x.2 14 (3 * b + j) = u.2.2 14 (3 * b + j)) → x.1 24 = K0.length →
      wm iv L h0 (d + 1) 101 72 [lr 307, li p.length, li b, li i] [] x (qi F) := by
    intro p m b G e hnx n
    have hb : b ∈ fl u.1 := by rw [e]; simp
    have hbl := (hmem b hb).1
    have hpl : (p.length : Int) < 60 := by
      have := p4
      rw [e] at this
      simp at this
      omega
    have hbp : b ∉ p := fun q => by
      rw [e] at p3
      exact (List.nodup_append.mp p3).2.2 b q b (List.mem_cons_self ..) rfl
    induction n with
    | zero =>
      intro i x i0 hi x1 x2 x3 x4 x5 x6
      have e9 : x.2 9 = s.2 9 := x1.2 9 (by decide)
      have m9 := (hmem b hb).2.1
      refine B101_72 ⟨by omega, by rw [e9]; exact m9, fun _ => ⟨by omega, hnx x ⟨x1, x2, fun y hy => x3 y ⟨hy.1, hy.2.1, ?_⟩, fun y hy => ?_⟩ x6⟩, fun q => by rw [e9] at q; omega⟩
      · rcases List.mem_append.mp hy.2.2 with q | q
        · exact Or.inl q
        · have q := List.mem_singleton.mp q
          obtain ⟨z1, z2, z3⟩ := (hmem y hy.1).2.2.2 hy.2.1
          rw [q] at z2
          exact Or.inr ⟨q, by omega⟩
      · rcases List.mem_append.mp hy with q | q
        · exact x4 y q
        · rw [List.mem_singleton.mp q]
          exact fun j j0 j1 => x5 j j0 (by omega)
    | succ n ih =>
      intro i x i0 hi x1 x2 x3 x4 x5 x6
      have e9 : x.2 9 = s.2 9 := x1.2 9 (by decide)
      have m9 := (hmem b hb).2.1
      have hpo := pO_in (s.2 9 b)
      refine B101_72 ⟨by omega, by rw [e9]; exact m9, fun q => by rw [e9] at q; omega, fun _ => ?_⟩
      obtain ⟨c1, c2, c3⟩ := (hmem b hb).2.2.1 i i0 (by omega) (fun q => by have := p2; unfold full at this; rw [this, ← q]; omega)
      have hcl := (hmem _ c1).1
      -- what is kept of this part
      have e29 : x.2 29 (240 * (K0.length : Int) + 3 * p.length + i) = u.2.2 14 (3 * b + i) := by
        rw [x1.2 29 (by decide)]
        have := (r3 p.length b (by rw [e]; simp)).2.2 i i0 (by omega)
        rw [← this]
        show s.2 29 _ = s.2 29 (240 * (K0.length : Int) + (3 * (p.length : Int) + i))
        rw [show 240 * (K0.length : Int) + 3 * (p.length : Int) + i = 240 * (K0.length : Int) + (3 * (p.length : Int) + i) by omega]
      rw [x6]
      have hk20 : (K0.length : Int) < 20 := by omega
      rw [e29]
      refine ⟨by omega, by omega, by omega, by omega, by omega, setPart_ok (by omega) (by omega) (by omega) ⟨by omega, ?_⟩⟩
      have pe := partU_e (s := x) (b := b) (i := i) (c := u.2.2 14 (3 * b + i))
      refine ih (i + 1) (partU x b i (u.2.2 14 (3 * b + i))) (by omega) (by omega) (x1.tr (pe.up (fun _ q => by cases q) (fun y q => by simp at q ⊢; omega))) (fun y => by rw [pe.2 10 (by decide)]; exact x2 y) (fun y hy => ?_) (fun y hy j j0 j1 => ?_) (fun j j0 j1 => ?_) x6
      · by_cases ey : y = u.2.2 14 (3 * b + i)
        · subst ey
          rw [c2, c3]
          obtain ⟨-, q1, q2⟩ := partU_at (s := x) (b := b) (i := i) (c := u.2.2 14 (3 * b + i))
          exact ⟨q1, q2⟩
        · have hne : (partU x b i (u.2.2 14 (3 * b + i))).2 12 y = x.2 12 y ∧ (partU x b i (u.2.2 14 (3 * b + i))).2 13 y = x.2 13 y := by
            simp [partU, ua_2, ey]
          rw [hne.1, hne.2]
          refine x3 y ⟨hy.1, hy.2.1, ?_⟩
          rcases hy.2.2 with q | ⟨q1, q2⟩
          · exact Or.inl q
          · refine Or.inr ⟨q1, ?_⟩
            obtain ⟨z1, z2, z3⟩ := (hmem y hy.1).2.2.2 hy.2.1
            by_cases q3 : u.2.2 13 y = i
            · exfalso
              rw [q1, q3] at z3
              exact ey z3.symm
            · omega
      · have hyb : y ≠ b := fun q => hbp (by rw [← q]; exact hy)
        have := pO_in (s.2 9 y)
        unfold partU
        rw [ua_2, if_neg (by omega), ua_2, if_neg (by omega), ua_2, if_neg (by omega)]
        exact x4 y hy j j0 j1
      · unfold partU
        rw [ua_2, if_neg (by omega), ua_2, if_neg (by omega), ua_2]
        by_cases q : j = i
        · rw [if_pos ⟨rfl, by omega⟩, q]
        · rw [if_neg (by omega)]
          exact x5 j j0 (by omega)
  have outer : ∀ (m p : List Int) (x : SM), fl u.1 = p ++ m → UM s x u p (fun y => y ∈ fl u.1 ∧ y ≠ hd u.1 ∧ u.2.2 12 y ∈ p) → x.1 24 = K0.length → wm iv L h0 (d + 1) 101 22 [lr 307, li p.length] [] x (qi F) := by
    intro m
    induction m with
    | nil =>
      intro p x e hx h24
      have ep : p = fl u.1 := by rw [e]; simp
      have e25 : x.2 25 K0.length = (fl u.1).length := by rw [hx.1.2 25 (by decide)]; exact r1
      have hk20 : (K0.length : Int) < 20 := by omega
      have h27 : x.2 27 (80 * (K0.length : Int)) = hd u.1 := by
        rw [hx.1.2 27 (by decide)]
        obtain ⟨r, er⟩ := fl_hd _ p1
        have := (r3 0 (hd u.1) (by rw [er]; rfl)).1
        rw [← this]
        show s.2 27 _ = s.2 27 (80 * (K0.length : Int) + ((0 : Nat) : Int))
        rw [show 80 * (K0.length : Int) + ((0 : Nat) : Int) = 80 * (K0.length : Int) by omega]
      have hm := (hmem _ (hd_mem _ p1)).1
      refine B101_22 ⟨by omega, fun q => ?_, fun q => by rw [h24, e25, ep] at q; omega⟩
      rw [h24, h27, show x.2 26 K0.length = u.2.1 16 from by rw [hx.1.2 26 (by decide)]; exact r2]
      refine ⟨by omega, by omega, by omega, hfin x ⟨hx.1, by rw [← ep]; exact hx.2.1, fun y hy => hx.2.2.1 y ⟨hy.1, hy.2, ?_⟩, by rw [← ep]; exact hx.2.2.2⟩ h24⟩
      rw [ep]
      exact ((hmem y hy.1).2.2.2 hy.2).1
    | cons b m ih =>
      intro p x e hx h24
      have hb : b ∈ fl u.1 := by rw [e]; simp
      have hbl := (hmem b hb).1
      have hpl : p.length < 60 ∧ p.length < (fl u.1).length := by
        have := p4
        rw [e] at this ⊢
        simp at this ⊢
        omega
      have hk20 : (K0.length : Int) < 20 := by omega
      have e25 : x.2 25 K0.length = (fl u.1).length := by rw [hx.1.2 25 (by decide)]; exact r1
      obtain ⟨s1, s2, s3⟩ := r3 p.length b (by rw [e]; simp)
      have e27 : x.2 27 (80 * (K0.length : Int) + p.length) = b := by rw [hx.1.2 27 (by decide)]; exact s1
      have e28 : x.2 28 (80 * (K0.length : Int) + p.length) = u.2.2 10 b := by rw [hx.1.2 28 (by decide)]; exact s2
      refine B101_22 ⟨by omega, fun q => by rw [h24, e25] at q; omega, fun q => ?_⟩
      rw [h24, e27, e28]
      refine ⟨by omega, by omega, by omega, by omega, ?_⟩
      have e' := e
      rw [app1] at e'
      have e1 : ((p ++ [b]).length : Int) = p.length + 1 := by simp
      refine inner p m b (fun _ => True) e (fun y hy h24' => ?_) (pO (s.2 9 b)).toNat 0 _ (by omega) (by have := pO_in (s.2 9 b); omega) (eqx_ua hx.1 (by decide)) (fun y => ?_) (fun y hy => ?_) (fun y hy j j0 j1 => hx.2.2.2 y hy j j0 j1) (fun j j0 j1 => by omega) h24
      · have := ih (p ++ [b]) y e' hy h24'
        rw [e1] at this
        exact this
      · rw [ua_2]
        by_cases q : y = b
        · rw [if_pos ⟨rfl, q⟩, if_pos (by rw [q]; simp), q]
        · rw [if_neg (by omega), hx.2.1]
          by_cases q2 : y ∈ p
          · rw [if_pos q2, if_pos (List.mem_append_left _ q2)]
          · rw [if_neg q2, if_neg (by simp [q2, q])]
      · refine hx.2.2.1 y ⟨hy.1, hy.2.1, ?_⟩
        rcases hy.2.2 with q | ⟨q1, q2⟩
        · exact q
        · obtain ⟨z1, z2, z3⟩ := (hmem y hy.1).2.2.2 hy.2.1
          omega
  refine outer (fl u.1) [] _ rfl ⟨eqx_us eqx.rf (by decide), fun y => by rw [if_neg (by simp)]; rfl, fun y hy => absurd hy.2.2 (by simp), fun y hy => absurd hy (by simp)⟩ rfl
theorem undo_aft {u : Snap} {v : SM} (hN : NB s) (h8 : s.1 8 ≤ 3000) (hP : KP s u) (hx : SX [24] [12, 13, 14] (undU s u) v) (hT : SHT v u.1) : AFT v u.1 := by
  refine ⟨hT, fun x x0 x1 => ?_, by rw [hx.1 16 (by decide) (by decide)]; exact hP.2.1⟩
  have e8 : v.1 8 = s.1 8 := hx.1 8 (by decide) (by decide)
  rw [e8] at x1
  have hi : ∀ f, f = 9 ∨ f = 10 ∨ f = 11 → ¬ scI f x := fun f q => by unfold scI; omega
  rw [hx.2 9 (by decide) (by decide) x (hi 9 (by decide)), hx.2 10 (by decide) (by decide) x (hi 10 (by decide)), hx.2 11 (by decide) (by decide) x (hi 11 (by decide)), hx.1 2 (by decide) (by decide)]
  have hn := hN x x0 x1
  show (0 ≤ s.2 9 x ∧ s.2 9 x < 16) ∧ ((s.2 9 x = 3 ∨ s.2 9 x = 8 ∨ s.2 9 x = 10) → 0 ≤ (undU s u).2 10 x ∧ (undU s u).2 10 x < 26) ∧ (s.2 9 x = 2 → (undU s u).2 10 x = 0 ∨ (undU s u).2 10 x = 1) ∧ ((s.2 9 x = 8 ∨ s.2 9 x = 15) → 0 ≤ s.2 11 x ∧ s.2 11 x < s.1 2)
  by_cases e : x ∈ fl u.1
  · rw [show (undU s u).2 10 x = u.2.2 10 x from if_pos ⟨rfl, e⟩]
    have := hP.2.2.2.2 x e
    exact ⟨hn.1, this.1, this.2, hn.2.2.2⟩
  · rw [show (undU s u).2 10 x = s.2 10 x from if_neg (fun q => e q.2)]
    exact hn
end
end
section
/-! rename(), move(). -/
/-- a NAME that the node at the cursor binds -/
def isB (s : SM) (y : Int) : Bool := decide (s.2 9 y = 3) && decide (bds s y (s.2 10 y) = s.1 16)
def nuR (s : SM) (v : Int) : Int → Int := fun y => if y = s.1 16 then v else s.2 10 y
def bdR (s : SM) (v b x : Int) : Int := bnd (s.2 9) (nuR s v) (s.2 12) (s.2 13) 70 b x
/-- a NAME that would be bound otherwise -/
def rnb (s : SM) (v y : Int) : Bool := decide (s.2 9 y = 3) && (decide (bdR s v y (if isB s y then v else s.2 10 y) = s.1 16) != isB s y)
def rnU (s : SM) (t : Term) (v : Int) : SM := (s.1, fun f y => if f = 10 ∧ (y = s.1 16 ∨ (y ∈ fl t ∧ isB s y = true)) then v else s.2 f y)
def renA (s : SM) (t : Term) (v : Int) : Int := if 0 ≤ v ∧ v ≤ 25 then (if s.2 9 (s.1 16) = 8 ∨ s.2 9 (s.1 16) = 10 then (if (fl t).any (rnb s v) = true then -6 else cntp (isB s) (fl t)) else -4) else -1
def renOk (s : SM) (t : Term) (v : Int) : Prop := (0 ≤ v ∧ v ≤ 25) ∧ (s.2 9 (s.1 16) = 8 ∨ s.2 9 (s.1 16) = 10) ∧ (fl t).any (rnb s v) = false
theorem bnd_nu {so nu up pl : Int → Int} : ∀ (n : Nat) (b x : Int), bnd so nu up pl n b x = -9 ∨ nu (bnd so nu up pl n b x) = x := by
  intro n
  induction n with
  | zero => intro b x; exact Or.inl rfl
  | succ n ih =>
    intro b x
    unfold bnd
    by_cases e : up b = -9
    · rw [if_pos e]; exact Or.inl rfl
    · rw [if_neg e]
      by_cases e2 : (so (up b) = 8 ∨ (so (up b) = 10 ∧ pl b = 1)) ∧ nu (up b) = x
      · rw [if_pos e2]; exact Or.inr e2.2
      · rw [if_neg e2]; exact ih (up b) x
theorem bnd_rng {so nu up pl : Int → Int} : ∀ (n : Nat) (b x : Int), DP up n b → bnd so nu up pl n b x = -9 ∨ ((0 ≤ bnd so nu up pl n b x ∧ bnd so nu up pl n b x < 3004) ∧ DP up n (bnd so nu up pl n b x)) := by
  intro n
  induction n with
  | zero => intro b x h; exact h.elim
  | succ n ih =>
    intro b x h
    unfold bnd
    by_cases e : up b = -9
    · rw [if_pos e]; exact Or.inl rfl
    · obtain ⟨h1, h2⟩ := h.resolve_left e
      rw [if_neg e]
      by_cases e2 : (so (up b) = 8 ∨ (so (up b) = 10 ∧ pl b = 1)) ∧ nu (up b) = x
      · rw [if_pos e2]; exact Or.inr ⟨h1, DP_up n (n + 1) _ (by omega) h2⟩
      · rw [if_neg e2]
        exact (ih (up b) x h2).imp id (fun q => ⟨q.1, DP_up n (n + 1) _ (by omega) q.2⟩)
theorem cntp_app (P : Int → Bool) : ∀ (l m : List Int), cntp P (l ++ m) = cntp P l + cntp P m := by
  intro l
  induction l with
  | nil => intro m; show cntp P m = 0 + cntp P m; omega
  | cons x r ih =>
    intro m
    show (if P x then 1 else 0) + cntp P (r ++ m) = (if P x then 1 else 0) + cntp P r + cntp P m
    rw [ih]; omega
section
variable {iv : List (Int × Int)} {L : Nat} {h0 : MH} {s : SM} {t : Term} {d : Nat}
theorem rename_ok {v : Int} {F : Int → SM → Prop} {K : List Snap} (h : SHT s t) (hN : NB s) (hc : s.1 16 ∈ fl t) (hK : KL s K) (hD : 100 ≤ d) (H1 : ∀ w, ¬ renOk s t v → SX [] [] s w → F (renA s t v) w) (H2 : renOk s t v → ∀ w, DONE s t K 0 (rnU s t v) w → F (renA s t v) w) : cm iv L h0 d 111 [vr 307, vi v] s (qi F) := by
  obtain ⟨d, rfl⟩ : ∃ k, d = k + 2 := ⟨d - 2, by omega⟩
  have hct := h.lt hc
  have hDP := fun x hx => DP_up 61 70 _ (by decide) (DP_tree h x hx)
  unfold renA at H1 H2
  have main : 0 ≤ v ∧ v ≤ 25 → (s.2 9 (s.1 16) = 8 ∨ s.2 9 (s.1 16) = 10) → cm iv L h0 (d + 1) 99 [vr 307] s (qv fun s2 => (0 ≤ s2.1 16 ∧ s2.1 16 < 3004) ∧ wm iv L h0 (d + 1 + 1) 111 62 [lr 307, li v, li (s2.2 10 (s2.1 16)), li 0, li 0] [] s2 (qi F)) := fun hv hso => by
    refine beginAct_ok h (by omega) (fun w w1 w2 w3 => ?_)
    have w16 : w.1 16 = s.1 16 := w1.1 16 (by decide)
    have w9 : w.2 9 = s.2 9 := w1.2 9 (by decide)
    have w10 : w.2 10 = s.2 10 := w1.2 10 (by decide)
    have w12 : w.2 12 = s.2 12 := w1.2 12 (by decide)
    have w13 : w.2 13 = s.2 13 := w1.2 13 (by decide)
    rw [w16, w10]
    refine ⟨by omega, ?_⟩
    -- the last loop: names are written
    have lst : (fl t).any (rnb s v) = false → ∀ (m p : List Int) (x : SM), fl t = p ++ m → eqx [] [10, 36] w x → (∀ (k : Nat) (y : Int), (fl t)[k]? = some y → x.2 36 k = if isB s y then 1 else 0) → (∀ y, x.2 10 y = if y = s.1 16 ∨ (y ∈ p ∧ isB s y = true) then v else s.2 10 y) → wm iv L h0 (d + 1 + 1) 111 317 [lr 307, li v, ln, li (cntp (isB s) (fl t)), ln, li p.length] [] x (qi F) := by
      intro hany m
      induction m with
      | nil =>
        intro p x e x1 x2 x3
        have ep : p = fl t := by rw [e]; simp
        have hl := LR_nil w2 e
        refine B111_317 ⟨fun _ => ?_, fun q => by rw [x1.1 18 (by decide)] at q; omega⟩
        refine act_end (s' := rnU s t v) h hN hc hK w1 w3 (x1.up (fun _ q => by cases q) (fun y q => by simp at q ⊢; omega)) ?_ ?_ ⟨fun y a1 a2 => ?_, fun f a1 a2 i a3 => ?_⟩ (fun u u1 u2 => ?_)
        · rw [x1.1 8 (by decide), w1.1 8 (by decide)]; exact Int.le_refl _
        · intro y _ _
          rw [x1.2 9 (by decide), w9]
        · rw [x1.1 y (by simp)]
          exact w1.1 y (by simp [scN] at a1; simp; omega)
        · show x.2 f i = if f = 10 ∧ (i = s.1 16 ∨ (i ∈ fl t ∧ isB s i = true)) then v else s.2 f i
          by_cases e1 : f = 10
          · subst e1
            rw [x3, ep]
            by_cases e2 : i = s.1 16 ∨ (i ∈ fl t ∧ isB s i = true)
            · rw [if_pos e2, if_pos ⟨rfl, e2⟩]
            · rw [if_neg e2, if_neg (fun q => e2 q.2)]
          · rw [if_neg (fun q => e1 q.1), x1.2 f (by simp [scR] at a1; simp; omega), w1.2 f (by simp [scR] at a1; simp; omega)]
        · have := H2 ⟨hv, hso, hany⟩ u ⟨u1, u2⟩
          rw [if_pos hv, if_pos hso, if_neg (by rw [hany]; decide)] at this
          exact this
      | cons y m ih =>
        intro p x e x1 x2 x3
        obtain ⟨c1, c2⟩ := LR_cons w2 e
        obtain ⟨c3, hy⟩ := h.fl80 e
        have hyl := h.lt hy
        have e' := e
        rw [app1] at e'
        have e1 : ((p ++ [y]).length : Int) = p.length + 1 := by simp
        have e36 := x2 p.length y (by rw [e]; simp)
        have e18 : x.1 18 = w.1 18 := x1.1 18 (by decide)
        have e17 : x.2 17 = w.2 17 := x1.2 17 (by decide)
        have nx : ∀ z, (∀ y', (ua x 10 y z).2 10 y' = if y' = s.1 16 ∨ (y' ∈ p ++ [y] ∧ isB s y' = true) then v else s.2 10 y') → wm iv L h0 (d + 1 + 1) 111 317 [lr 307, li v, ln, li (cntp (isB s) (fl t)), ln, li (p.length + 1)] [] (ua x 10 y z) (qi F) := fun z hz => by
          have := ih (p ++ [y]) (ua x 10 y z) e' (eqx_ua x1 (by decide)) (fun k y' hk => x2 k y' hk) hz
          rw [e1] at this
          exact this
        refine B111_317 ⟨fun q => by omega, fun _ => ⟨by omega, fun q => ?_, fun q => ?_⟩⟩
        · rw [e17, c1]
          rw [e36] at q
          refine ⟨by omega, by omega, nx _ (fun y' => ?_)⟩
          have hb : isB s y = false := by cases hb : isB s y with
            | false => rfl
            | true => rw [hb] at q; exact absurd q (by decide)
          rw [ua_2]
          by_cases ey : y' = y
          · subst ey
            rw [if_pos ⟨rfl, rfl⟩, x3, hb]
            by_cases e4 : y' = s.1 16
            · rw [if_pos (Or.inl e4), if_pos (Or.inl e4)]
            · rw [if_neg (by simp [e4]), if_neg (by simp [e4])]
          · rw [if_neg (by omega), x3]
            by_cases e4 : y' = s.1 16 ∨ (y' ∈ p ∧ isB s y' = true)
            · rw [if_pos e4, if_pos (e4.imp id (fun q => ⟨List.mem_append_left _ q.1, q.2⟩))]
            · rw [if_neg e4, if_neg (fun q => e4 (q.imp id (fun q => ⟨by simpa [ey] using q.1, q.2⟩)))]
        · rw [e17, c1]
          rw [e36] at q
          refine ⟨by omega, by omega, nx _ (fun y' => ?_)⟩
          have hb : isB s y = true := by cases hb : isB s y with
            | true => rfl
            | false => rw [hb] at q; exact absurd rfl q
          rw [ua_2]
          by_cases ey : y' = y
          · subst ey
            rw [if_pos ⟨rfl, rfl⟩, if_pos (Or.inr ⟨by simp, hb⟩)]
          · rw [if_neg (by omega), x3]
            by_cases e4 : y' = s.1 16 ∨ (y' ∈ p ∧ isB s y' = true)
            · rw [if_pos e4, if_pos (e4.imp id (fun q => ⟨List.mem_append_left _ q.1, q.2⟩))]
            · rw [if_neg e4, if_neg (fun q => e4 (q.imp id (fun q => ⟨by simpa [ey] using q.1, q.2⟩)))]
    -- the second one: whether a name is caught
    have snd : ∀ (x : SM), eqx [] [10, 36] w x → (∀ (k : Nat) (y : Int), (fl t)[k]? = some y → x.2 36 k = if isB s y then 1 else 0) → x.2 10 = nuR s v → ∀ (m p : List Int) (b : Bool), fl t = p ++ m → (fl t).any (rnb s v) = (b || m.any (rnb s v)) → wm iv L h0 (d + 1 + 1) 111 174 [lr 307, li v, li (s.2 10 (s.1 16)), li (cntp (isB s) (fl t)), li (if b then 1 else 0), li p.length] [] x (qi F) := by
      intro x x1 x2 x3 m
      have e18 : x.1 18 = w.1 18 := x1.1 18 (by decide)
      have e17 : x.2 17 = w.2 17 := x1.2 17 (by decide)
      have e16 : x.1 16 = s.1 16 := (x1.1 16 (by decide)).trans w16
      have e9 : x.2 9 = s.2 9 := (x1.2 9 (by decide)).trans w9
      have e12 : x.2 12 = s.2 12 := (x1.2 12 (by decide)).trans w12
      have e13 : x.2 13 = s.2 13 := (x1.2 13 (by decide)).trans w13
      induction m with
      | nil =>
        intro p b e hb
        have hl := LR_nil w2 e
        simp at hb
        refine B111_174 ⟨fun _ => ⟨fun q => ?_, fun q => ?_⟩, fun q => by rw [e18] at q; omega⟩
        · have hb0 : b = false := by cases b with
            | false => rfl
            | true => exact absurd q (by decide)
          rw [hb0] at hb
          refine lst (by simpa using hb) (fl t) [] x rfl x1 x2 (fun y => ?_)
          rw [x3]
          show (if y = s.1 16 then v else s.2 10 y) = _
          by_cases e4 : y = s.1 16
          · rw [if_pos e4, if_pos (Or.inl e4)]
          · rw [if_neg e4, if_neg (by simp [e4])]
        · have hb1 : b = true := by cases b with
            | true => rfl
            | false => exact absurd rfl q
          rw [hb1] at hb
          have hany : (fl t).any (rnb s v) = true := by simpa using hb
          rw [e16]
          refine ⟨by omega, ?_⟩
          have hx : SX [] [] s (ua x 10 (s.1 16) (s.2 10 (s.1 16))) := ⟨fun y a1 a2 => ?_, fun f a1 a2 i a3 => ?_⟩
          · have := H1 _ (fun q => by rw [q.2.2] at hany; cases hany) hx
            rw [if_pos hv, if_pos hso, if_pos hany] at this
            exact this
          · show x.1 y = s.1 y
            rw [x1.1 y (by simp)]
            exact w1.1 y (by simp [scN] at a1; simp; omega)
          · rw [ua_2]
            by_cases e1 : f = 10
            · subst e1
              by_cases e2 : i = s.1 16
              · rw [if_pos ⟨rfl, e2⟩, e2]
              · rw [if_neg (by omega), x3]
                exact if_neg e2
            · rw [if_neg (by omega), x1.2 f (by simp [scR] at a1; simp; omega), w1.2 f (by simp [scR] at a1; simp; omega)]
      | cons y m ih =>
        intro p b e hb
        obtain ⟨c1, c2⟩ := LR_cons w2 e
        obtain ⟨c3, hy⟩ := h.fl80 e
        have hyl := h.lt hy
        have e' := e
        rw [app1] at e'
        have e1 : ((p ++ [y]).length : Int) = p.length + 1 := by simp
        have e36 := x2 p.length y (by rw [e]; simp)
        have hb2 : (fl t).any (rnb s v) = ((b || rnb s v y) || m.any (rnb s v)) := by rw [hb]; simp [Bool.or_assoc]
        have nx : ∀ z : Int, z = (if (b || rnb s v y) then 1 else 0) → wm iv L h0 (d + 1 + 1) 111 174 [lr 307, li v, li (s.2 10 (s.1 16)), li (cntp (isB s) (fl t)), li z, li (p.length + 1)] [] x (qi F) := fun z hz => by
          have := ih (p ++ [y]) (b || rnb s v y) e' hb2
          rw [e1] at this
          rw [hz]
          exact this
        have one : b = true → (1 : Int) = if (b || rnb s v y) then 1 else 0 := fun q => by rw [q]; rfl
        have bb : ∀ b' : Bool, ((if b' then (1 : Int) else 0) ≠ 0 → b' = true) ∧ ((if b' then (1 : Int) else 0) = 0 → b' = false) := fun b' => by cases b' <;> simp
        -- what comes of a name's binder
        have nam : s.2 9 y = 3 → ∀ r : Int, r = bdR s v y (if isB s y then v else s.2 10 y) → ((r ≠ s.1 16 → (((if b then (1 : Int) else 0) ≠ 0 → (-2147483648 ≤ (p.length : Int) + 1 ∧ (p.length : Int) + 1 ≤ 2147483647) ∧ wm iv L h0 (d + 1 + 1) 111 174 [lr 307, li v, li (s.2 10 (s.1 16)), li (cntp (isB s) (fl t)), li 1, li (p.length + 1)] [] x (qi F)) ∧ ((if b then (1 : Int) else 0) = 0 → (0 ≤ y ∧ y < 3004) ∧ ((s.2 9 y ≠ 3 → (-2147483648 ≤ (p.length : Int) + 1 ∧ (p.length : Int) + 1 ≤ 2147483647) ∧ wm iv L h0 (d + 1 + 1) 111 174 [lr 307, li v, li (s.2 10 (s.1 16)), li (cntp (isB s) (fl t)), li 0, li (p.length + 1)] [] x (qi F)) ∧ (s.2 9 y = 3 → ((0 = x.2 36 p.length → (-2147483648 ≤ (p.length : Int) + 1 ∧ (p.length : Int) + 1 ≤ 2147483647) ∧ wm iv L h0 (d + 1 + 1) 111 174 [lr 307, li v, li (s.2 10 (s.1 16)), li (cntp (isB s) (fl t)), li 0, li (p.length + 1)] [] x (qi F)) ∧ (0 ≠ x.2 36 p.length → (-2147483648 ≤ (p.length : Int) + 1 ∧ (p.length : Int) + 1 ≤ 2147483647) ∧ wm iv L h0 (d + 1 + 1) 111 174 [lr 307, li v, li (s.2 10 (s.1 16)), li (cntp (isB s) (fl t)), li 1, li (p.length + 1)] [] x (qi F)))))))) ∧
            (r = s.1 16 → (((if b then (1 : Int) else 0) ≠ 0 → (-2147483648 ≤ (p.length : Int) + 1 ∧ (p.length : Int) + 1 ≤ 2147483647) ∧ wm iv L h0 (d + 1 + 1) 111 174 [lr 307, li v, li (s.2 10 (s.1 16)), li (cntp (isB s) (fl t)), li 1, li (p.length + 1)] [] x (qi F)) ∧ ((if b then (1 : Int) else 0) = 0 → (0 ≤ y ∧ y < 3004) ∧ ((s.2 9 y ≠ 3 → (-2147483648 ≤ (p.length : Int) + 1 ∧ (p.length : Int) + 1 ≤ 2147483647) ∧ wm iv L h0 (d + 1 + 1) 111 174 [lr 307, li v, li (s.2 10 (s.1 16)), li (cntp (isB s) (fl t)), li 0, li (p.length + 1)] [] x (qi F)) ∧ (s.2 9 y = 3 → ((1 = x.2 36 p.length → (-2147483648 ≤ (p.length : Int) + 1 ∧ (p.length : Int) + 1 ≤ 2147483647) ∧ wm iv L h0 (d + 1 + 1) 111 174 [lr 307, li v, li (s.2 10 (s.1 16)), li (cntp (isB s) (fl t)), li 0, li (p.length + 1)] [] x (qi F)) ∧ (1 ≠ x.2 36 p.length → (-2147483648 ≤ (p.length : Int) + 1 ∧ (p.length : Int) + 1 ≤ 2147483647) ∧ wm iv L h0 (d + 1 + 1) 111 174 [lr 307, li v, li (s.2 10 (s.1 16)), li (cntp (isB s) (fl t)), li 1, li (p.length + 1)] [] x (qi F))))))))) := fun h3 r hr => by
          have er : rnb s v y = (decide (r = s.1 16) != isB s y) := by unfold rnb; rw [← hr, h3]; simp
          rw [e36]
          refine ⟨fun q => ⟨fun q2 => ⟨by omega, nx 1 (one ((bb b).1 q2))⟩, fun q2 => ⟨by omega, fun q3 => absurd h3 q3, fun _ => ⟨fun q3 => ⟨by omega, nx 0 ?_⟩, fun q3 => ⟨by omega, nx 1 ?_⟩⟩⟩⟩, fun q => ⟨fun q2 => ⟨by omega, nx 1 (one ((bb b).1 q2))⟩, fun q2 => ⟨by omega, fun q3 => absurd h3 q3, fun _ => ⟨fun q3 => ⟨by omega, nx 0 ?_⟩, fun q3 => ⟨by omega, nx 1 ?_⟩⟩⟩⟩⟩
          · rw [er, (bb b).2 q2, (bb (isB s y)).2 q3.symm, decide_eq_false q]; rfl
          · rw [er, (bb b).2 q2, (bb (isB s y)).1 (Ne.symm q3), decide_eq_false q]; rfl
          · rw [er, (bb b).2 q2, (bb (isB s y)).1 (by omega), decide_eq_true q]; rfl
          · have hb3 : isB s y = false := by cases hb3 : isB s y with
              | false => rfl
              | true => rw [hb3] at q3; exact absurd rfl q3
            rw [er, (bb b).2 q2, hb3, decide_eq_true q]; rfl
        refine B111_174 ⟨fun q => by omega, fun _ => ?_⟩
        rw [e17, c1, e9]
        refine ⟨by omega, by omega, fun q => ⟨fun q2 => ⟨by omega, nx 1 (one ((bb b).1 q2))⟩, fun q2 => ⟨fun _ => ⟨by omega, nx 0 ?_⟩, fun q3 => absurd q3 q⟩⟩, fun q => ⟨fun q2 => ?_, fun q2 => ?_⟩⟩
        · have : rnb s v y = false := by unfold rnb; rw [decide_eq_false q]; rfl
          rw [(bb b).2 q2, this]; rfl
        · rw [e36] at q2
          have hb3 := (bb (isB s y)).2 q2
          refine binderOf_ok (n := 70) (by omega) (by rw [e12]; exact hDP y hy) ?_
          rw [e9, x3, e12, e13, e16, e17, c1, e36]
          have := nam q _ (show bnd (s.2 9) (nuR s v) (s.2 12) (s.2 13) 70 y (nuR s v y) = bdR s v y (if isB s y then v else s.2 10 y) from by
            rw [hb3]
            show bdR s v y (nuR s v y) = bdR s v y (s.2 10 y)
            unfold nuR
            rw [if_neg (fun q4 => by rw [q4] at q; omega)])
          rw [e36] at this
          exact this
        · rw [e36] at q2
          have hb3 := (bb (isB s y)).1 q2
          refine binderOf_ok (n := 70) (by omega) (by rw [e12]; exact hDP y hy) ?_
          rw [e9, x3, e12, e13, e16, e17, c1, e36]
          have := nam q _ (show bnd (s.2 9) (nuR s v) (s.2 12) (s.2 13) 70 y v = bdR s v y (if isB s y then v else s.2 10 y) from by
            rw [hb3]
            rfl)
          rw [e36] at this
          exact this
    -- the first one: which names it binds
    have fst : ∀ (m p : List Int) (x : SM), fl t = p ++ m → eqx [] [36] w x → (∀ (k : Nat) (y : Int), p[k]? = some y → x.2 36 k = if isB s y then 1 else 0) → wm iv L h0 (d + 1 + 1) 111 62 [lr 307, li v, li (s.2 10 (s.1 16)), li (cntp (isB s) p), li p.length] [] x (qi F) := by
      intro m
      induction m with
      | nil =>
        intro p x e x1 x2
        have ep : p = fl t := by rw [e]; simp
        have hl := LR_nil w2 e
        have e16 : x.1 16 = s.1 16 := (x1.1 16 (by decide)).trans w16
        refine B111_62 ⟨fun _ => ?_, fun q => by rw [x1.1 18 (by decide)] at q; omega⟩
        rw [e16, ep]
        refine ⟨by omega, snd (ua x 10 (s.1 16) v) (eqx_ua (x1.up (fun _ q => q) (fun y q => by simp at q ⊢; omega)) (by decide)) (fun k y hk => x2 k y (by rw [ep]; exact hk)) ?_ (fl t) [] false rfl (by simp)⟩
        funext y
        rw [ua_2, x1.2 10 (by decide), w10]
        unfold nuR
        by_cases e4 : y = s.1 16
        · rw [if_pos ⟨rfl, e4⟩, if_pos e4]
        · rw [if_neg (by omega), if_neg e4]
      | cons y m ih =>
        intro p x e x1 x2
        obtain ⟨c1, c2⟩ := LR_cons w2 e
        obtain ⟨c3, hy⟩ := h.fl80 e
        have hyl := h.lt hy
        have e' := e
        rw [app1] at e'
        have e1 : ((p ++ [y]).length : Int) = p.length + 1 := by simp
        have e18 : x.1 18 = w.1 18 := x1.1 18 (by decide)
        have e17 : x.2 17 = w.2 17 := x1.2 17 (by decide)
        have e16 : x.1 16 = s.1 16 := (x1.1 16 (by decide)).trans w16
        have e9 : x.2 9 = s.2 9 := (x1.2 9 (by decide)).trans w9
        have e10 : x.2 10 = s.2 10 := (x1.2 10 (by decide)).trans w10
        have e12 : x.2 12 = s.2 12 := (x1.2 12 (by decide)).trans w12
        have e13 : x.2 13 = s.2 13 := (x1.2 13 (by decide)).trans w13
        have cl := cntp_in (isB s) p
        have ep1 : cntp (isB s) (p ++ [y]) = cntp (isB s) p + (if isB s y then 1 else 0) := by
          rw [cntp_app]
          show _ + ((if isB s y then 1 else 0) + 0) = _
          omega
        have nx : ∀ z : Int, z = (if isB s y then 1 else 0) → wm iv L h0 (d + 1 + 1) 111 62 [lr 307, li v, li (s.2 10 (s.1 16)), li (cntp (isB s) p + z), li (p.length + 1)] [] (ua x 36 p.length z) (qi F) := fun z hz => by
          have := ih (p ++ [y]) (ua x 36 p.length z) e' (eqx_ua x1 (by decide)) (fun k y' hk => ?_)
          · rw [e1, ep1, ← hz] at this
            exact this
          · rw [ua_2]
            by_cases hkp : k < p.length
            · rw [List.getElem?_append_left hkp] at hk
              rw [if_neg (by omega)]
              exact x2 k y' hk
            · rw [List.getElem?_append_right (by omega)] at hk
              have hk0 : k = p.length := by
                have := (List.getElem?_eq_some_iff.mp hk).1
                simp at this
                omega
              subst hk0
              simp at hk
              subst hk
              rw [if_pos ⟨rfl, rfl⟩]
              exact hz
        have z0 : (ua x 36 (p.length : Int) 0).2 36 p.length = 0 := by simp [ua_2]
        have z1 : (ua x 36 (p.length : Int) 1).2 36 p.length = 1 := by simp [ua_2]
        have no : isB s y = false → (((ua x 36 (p.length : Int) 0).2 36 p.length = 0 → (-2147483648 ≤ cntp (isB s) p + 0 ∧ cntp (isB s) p + 0 ≤ 2147483647) ∧ (-2147483648 ≤ (p.length : Int) + 1 ∧ (p.length : Int) + 1 ≤ 2147483647) ∧ wm iv L h0 (d + 1 + 1) 111 62 [lr 307, li v, li (s.2 10 (s.1 16)), li (cntp (isB s) p + 0), li (p.length + 1)] [] (ua x 36 p.length 0) (qi F)) ∧ ((ua x 36 (p.length : Int) 0).2 36 p.length ≠ 0 → (-2147483648 ≤ cntp (isB s) p + 1 ∧ cntp (isB s) p + 1 ≤ 2147483647) ∧ (-2147483648 ≤ (p.length : Int) + 1 ∧ (p.length : Int) + 1 ≤ 2147483647) ∧ wm iv L h0 (d + 1 + 1) 111 62 [lr 307, li v, li (s.2 10 (s.1 16)), li (cntp (isB s) p + 1), li (p.length + 1)] [] (ua x 36 p.length 0) (qi F))) := fun hb =>
          ⟨fun _ => ⟨by omega, by omega, nx 0 (by rw [hb]; rfl)⟩, fun q => absurd z0 q⟩
        refine B111_62 ⟨fun q => by omega, fun _ => ?_⟩
        rw [e17, c1, e9, e10]
        refine ⟨by omega, by omega, fun q => no (by unfold isB; rw [decide_eq_false q]; rfl), fun q => ⟨fun q2 => no ?_, fun q2 => ?_⟩⟩
        · unfold isB
          rw [decide_eq_false (p := bds s y (s.2 10 y) = s.1 16), Bool.and_false]
          intro q3
          rcases bnd_nu (so := s.2 9) (nu := s.2 10) (up := s.2 12) (pl := s.2 13) 70 y (s.2 10 y) with q4 | q4
          · have : bds s y (s.2 10 y) = -9 := q4
            omega
          · have q4 : s.2 10 (bds s y (s.2 10 y)) = s.2 10 y := q4
            rw [q3] at q4
            exact q2 q4.symm
        · refine binderOf_ok (n := 70) (by omega) (by rw [e12]; exact hDP y hy) ?_
          rw [e9, e10, e12, e13, e16]
          have hbe : bnd (s.2 9) (s.2 10) (s.2 12) (s.2 13) 70 y (s.2 10 (s.1 16)) = bds s y (s.2 10 y) := by rw [← q2]
          rw [hbe]
          refine ⟨fun q3 => no ?_, fun q3 => ⟨fun q4 => ?_, fun _ => ⟨by omega, by omega, nx 1 ?_⟩⟩⟩
          · unfold isB; rw [decide_eq_false q3, Bool.and_false]
          · rw [z1] at q4; exact absurd q4 (by decide)
          · unfold isB; rw [decide_eq_true q3, decide_eq_true q]; rfl
    exact fst (fl t) [] w rfl eqx.rf (fun k y hk => by simp at hk)
  refine B111 ⟨fun hv => ⟨by omega, fun e => main hv (Or.inl e), fun e => ⟨fun e2 => main hv (Or.inr e2), fun e2 => ?_⟩⟩, fun hv => ?_⟩
  · have := H1 s (fun q => by have := q.2.1; omega) SX.rf
    rw [if_pos hv, if_neg (by omega)] at this
    exact this
  · have := H1 s (fun q => by have := q.1; omega) SX.rf
    rw [if_neg (by omega)] at this
    exact this
end
end
