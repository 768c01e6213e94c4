/-! A piece of the tree is changed: what the rows hold behind it. -/
noncomputable def rpT (x : Int) (u t : Term) : Term := if hd t = x then u else rp x u t
/-- the cells of some nodes are as they were -/
def OLD (P : Int → Prop) (s w : SM) : Prop := ∀ y, P y → (w.2 9 y = s.2 9 y ∧ w.2 10 y = s.2 10 y ∧ w.2 11 y = s.2 11 y) ∧ (w.2 12 y = s.2 12 y ∧ w.2 13 y = s.2 13 y) ∧ ∀ i, 0 ≤ i → i < 3 → w.2 14 (3 * y + i) = s.2 14 (3 * y + i)
theorem OLD.rf {P : Int → Prop} {s : SM} : OLD P s s := fun _ _ => ⟨⟨rfl, rfl, rfl⟩, ⟨rfl, rfl⟩, fun _ _ _ => rfl⟩
theorem OLD.tr {P : Int → Prop} {s w v : SM} (h1 : OLD P s w) (h2 : OLD P w v) : OLD P s v := fun y hy => by
  obtain ⟨⟨a1, a2, a3⟩, ⟨a4, a5⟩, a6⟩ := h1 y hy
  obtain ⟨⟨b1, b2, b3⟩, ⟨b4, b5⟩, b6⟩ := h2 y hy
  exact ⟨⟨b1.trans a1, b2.trans a2, b3.trans a3⟩, ⟨b4.trans a4, b5.trans a5⟩, fun i i0 i3 => (b6 i i0 i3).trans (a6 i i0 i3)⟩
theorem OLD.mo {P P' : Int → Prop} {s w : SM} (h : OLD P s w) (hp : ∀ y, P' y → P y) : OLD P' s w := fun y hy => h y (hp y hy)
theorem rpT_fl {so pa up pl : Int → Int} {B c : Int} {t : Term} (h : AT so pa up pl B t) (hnd : (fl t).Nodup) (hc : c ∈ fl t) : ∃ a z : List Int, fl t = a ++ (fl (sq c t) ++ z) ∧ (∀ u, fl (rpT c u t) = a ++ (fl u ++ z)) ∧ (c ≠ hd t → hd t ∈ a) := by
  by_cases e : hd t = c
  · refine ⟨[], [], ?_, fun u => ?_, fun q => absurd e.symm q⟩
    · unfold sq; rw [if_pos e]; simp
    · unfold rpT; rw [if_pos e]; simp
  · obtain ⟨a, z, ha, h1, h2⟩ := rp_fl t h hnd hc (Ne.symm e)
    refine ⟨a, z, ?_, fun u => ?_, fun _ => ?_⟩
    · unfold sq; rw [if_neg e]; exact h1
    · unfold rpT; rw [if_neg e]; exact h2 u
    · obtain ⟨r, er⟩ := fl_hd t h
      rw [er] at h1
      cases a with
      | nil => exact absurd rfl ha
      | cons y a =>
        rw [List.cons_append] at h1
        rw [(List.cons.inj h1).1]
        exact List.mem_cons_self ..
theorem SHT_rp {s w : SM} {t u : Term} {c : Int} (h : SHT s t) (hc : c ∈ fl t) (hB : s.1 8 ≤ w.1 8 ∧ w.1 8 ≤ 3000) (hu : ATs w u) (hf : full (w.2 9) u) (hnd : (fl u).Nodup) (hdis : ∀ y, y ∈ fl u → y ∈ fl t → y ∈ fl (sq c t))
    (hs : ∀ y, y ∈ fl t → y ∉ fl (sq c t) → w.2 9 y = s.2 9 y ∧ w.2 12 y = s.2 12 y ∧ w.2 13 y = s.2 13 y ∧ ∀ i, 0 ≤ i → i < 3 → 3 * y + i ≠ 3 * s.2 12 c + s.2 13 c → w.2 14 (3 * y + i) = s.2 14 (3 * y + i))
    (hup : w.2 12 (hd u) = s.2 12 c ∧ w.2 13 (hd u) = s.2 13 c) (hpa : c ≠ hd t → w.2 14 (3 * s.2 12 c + s.2 13 c) = hd u) (htop : w.1 15 = if c = hd t then hd u else s.1 15) (hlen : (fl (rpT c u t)).length ≤ 60) : SHT w (rpT c u t) := by
  obtain ⟨h1, h2, h3, h4, h5, h6, h7, h8⟩ := h
  have hnd2 : (fl (rpT c u t)).Nodup := by
    obtain ⟨a, z, e1, e2, -⟩ := rpT_fl h1 h3 hc
    rw [e2]
    rw [e1] at h3
    obtain ⟨n1, n2, n3⟩ := List.nodup_append.mp h3
    obtain ⟨n4, n5, n6⟩ := List.nodup_append.mp n2
    refine List.nodup_append.mpr ⟨n1, List.nodup_append.mpr ⟨hnd, n5, fun x hx y hy e => ?_⟩, fun x hx y hy e => ?_⟩
    · subst e
      have := hdis x hx (by rw [e1]; simp [hy])
      exact n6 x this x hy rfl
    · subst e
      rcases List.mem_append.mp hy with hy | hy
      · have := hdis x hy (by rw [e1]; simp [hx])
        exact n3 x hx x (List.mem_append_left _ this) rfl
      · exact n3 x hx x (List.mem_append_right _ hy) rfl
  by_cases e : hd t = c
  · have er : rpT c u t = u := if_pos e
    rw [er] at hnd2 hlen ⊢
    rw [if_pos e.symm] at htop
    rw [← e, h7, h8] at hup
    exact ⟨hu, hf, hnd2, hlen, ⟨by omega, hB.2⟩, htop.symm, hup.1, hup.2⟩
  · have er : rpT c u t = rp c u t := if_neg e
    have es : sq c t = sb c t := if_neg e
    rw [es] at hs hdis
    rw [er] at hnd2 hlen ⊢
    rw [if_neg (Ne.symm e)] at htop
    obtain ⟨q1, q2⟩ := rp_hd (x := c) (u := u) t
    obtain ⟨b1, b2, b3, b4, b5, b6⟩ := sb_ok t h1 h3 hc (Ne.symm e)
    have ht := hd_mem t h1
    have hst := hs _ ht b5
    refine ⟨AT_rp hB.1 hu hf t h1 h3 hc (Ne.symm e) (fun y hy hn => ⟨(hs y hy hn).1, fun i i0 i1 _ ne => (hs y hy hn).2.2.2 i i0 (by have := pO_in (s.2 9 y); omega) ne⟩) (fun y hy hn _ => ⟨(hs y hy hn).2.1, (hs y hy hn).2.2.1⟩) (hpa (Ne.symm e)) hup.1 hup.2, ?_, hnd2, hlen, ⟨by omega, hB.2⟩, ?_, ?_, ?_⟩
    · unfold full
      rw [q1, q2, hst.1]
      exact h2
    · rw [q1, htop]; exact h6
    · rw [q1, hst.2.1]; exact h7
    · rw [q1, hst.2.2.1]; exact h8
/-! congruences -/
section
variable {ey ef : List Nat} {s w : SM}
theorem partU_x {b i c : Int} (h : SX ey ef s w) : SX ey ef (partU s b i c) (partU w b i c) := h.ua.ua.ua
theorem setU_x {b so v k : Int} (h : SX ey ef s w) : SX ey ef (setU s b so v k) (setU w b so v k) := h.ua.ua.ua
theorem bornU_x {so v k : Int} (h : SX ey ef s w) (hy : 8 ∉ ey) : SX ey ef (bornU s so v k) (bornU w so v k) := by
  unfold bornU
  rw [h.1 8 (by decide) hy]
  exact setU_x h.us
theorem replU_x {o c : Int} (h : SX ey ef s w) (ho : o < 3000) (hf : 12 ∉ ef ∧ 13 ∉ ef) : SX ey ef (replU s o c) (replU w o c) := by
  unfold replU
  rw [h.2 12 (by decide) hf.1 o (by unfold scI; omega), h.2 13 (by decide) hf.2 o (by unfold scI; omega)]
  split
  · exact h.us.ua.ua
  · exact partU_x h
theorem bornU_8 {so v k : Int} : (bornU s so v k).1 8 = s.1 8 + 1 := rfl
theorem bornU_o {so v k : Int} : OLD (fun y => y < s.1 8) s (bornU s so v k) := fun y hy => by
  have hy : y < s.1 8 := hy
  simp only [bornU, setU, ua_2, us_2]
  refine ⟨⟨?_, ?_, ?_⟩, ⟨?_, ?_⟩, fun i _ _ => ?_⟩
  · rw [if_neg (by omega), if_neg (by omega), if_neg (by omega)]
  · rw [if_neg (by omega), if_neg (by omega), if_neg (by omega)]
  · rw [if_neg (by omega), if_neg (by omega), if_neg (by omega)]
  · rw [if_neg (by omega), if_neg (by omega), if_neg (by omega)]
  · rw [if_neg (by omega), if_neg (by omega), if_neg (by omega)]
  · rw [if_neg (by omega), if_neg (by omega), if_neg (by omega)]
theorem bornU_at {so v k : Int} : (bornU s so v k).2 9 (s.1 8) = so ∧ (bornU s so v k).2 10 (s.1 8) = nvl so v ∧ (bornU s so v k).2 11 (s.1 8) = kvl so k := by
  simp [bornU, setU, ua_2, us_2]
theorem bornU_e {so v k : Int} : eqx [8] [9, 10, 11] s (bornU s so v k) := eqx_ua (eqx_ua (eqx_ua (eqx_us eqx.rf (by decide)) (by decide)) (by decide)) (by decide)
theorem partU_e {b i c : Int} : eqx [] [12, 13, 14] s (partU s b i c) := eqx_ua (eqx_ua (eqx_ua eqx.rf (by decide)) (by decide)) (by decide)
theorem replU_e {o c : Int} : eqx [15] [12, 13, 14] s (replU s o c) := by
  unfold replU
  split
  · exact eqx_ua (eqx_ua (eqx_us eqx.rf (by decide)) (by decide)) (by decide)
  · exact partU_e.up (fun _ q => by cases q) (fun _ q => q)
theorem partU_at {b i c : Int} : (partU s b i c).2 14 (3 * b + i) = c ∧ (partU s b i c).2 12 c = b ∧ (partU s b i c).2 13 c = i := by
  simp [partU, ua_2]
theorem partU_o {b i c : Int} (hi : 0 ≤ i ∧ i < 3) : OLD (fun y => y ≠ b ∧ y ≠ c) s (partU s b i c) := fun y hy => by
  obtain ⟨hb, hc⟩ := hy
  simp only [partU, ua_2]
  refine ⟨⟨?_, ?_, ?_⟩, ⟨?_, ?_⟩, fun j _ _ => ?_⟩
  · rw [if_neg (by omega), if_neg (by omega), if_neg (by omega)]
  · rw [if_neg (by omega), if_neg (by omega), if_neg (by omega)]
  · rw [if_neg (by omega), if_neg (by omega), if_neg (by omega)]
  · rw [if_neg (by omega), if_neg (by omega), if_neg (by omega)]
  · rw [if_neg (by omega), if_neg (by omega), if_neg (by omega)]
  · rw [if_neg (by omega), if_neg (by omega), if_neg (by omega)]
end
/-- a hole more as a part -/
def hlU (b i : Int) (s : SM) : SM := partU (bornU s 0 (-9) (-9)) b i (s.1 8)
def hlsU (b : Int) : Nat → Int → SM → SM
  | 0, _, s => s
  | m + 1, i, s => hlsU b m (i + 1) (hlU b i s)
def adds : Nat → Nat → Term → Term
  | 0, _, u => u
  | m + 1, B, u => adds m (B + 1) (.add u (.index B))
theorem adds_fl : ∀ (m B : Nat) (u : Term), fl (adds m B u) = fl u ++ (List.range' B m).map Int.ofNat := by
  intro m
  induction m with
  | zero => intro B u; simp [adds]
  | succ m ih =>
    intro B u
    show fl (adds m (B + 1) (.add u (.index B))) = _
    rw [ih, List.range'_succ]
    show (fl u ++ [(B : Int)]) ++ _ = _
    simp
theorem adds_hd : ∀ (m B : Nat) (u : Term), hd (adds m B u) = hd u ∧ na (adds m B u) = na u + m := by
  intro m
  induction m with
  | zero => intro B u; exact ⟨rfl, by show na u = na u + ((0 : Nat) : Int); omega⟩
  | succ m ih =>
    intro B u
    obtain ⟨h1, h2⟩ := ih (B + 1) (.add u (.index B))
    refine ⟨h1, h2.trans ?_⟩
    show na u + 1 + (m : Int) = na u + ((m + 1 : Nat) : Int)
    omega
theorem hlU_8 {b i : Int} {s : SM} : (hlU b i s).1 8 = s.1 8 + 1 := rfl
theorem hlU_x {ey ef : List Nat} {s w : SM} {b i : Int} (h : SX ey ef s w) (hy : 8 ∉ ey) : SX ey ef (hlU b i s) (hlU b i w) := by
  unfold hlU
  rw [h.1 8 (by decide) hy]
  exact partU_x (bornU_x h hy)
theorem hlU_e {b i : Int} {s : SM} : eqx [8] [9, 10, 11, 12, 13, 14] s (hlU b i s) := (bornU_e.up (fun _ q => q) (fun y q => by simp at q ⊢; omega)).tr (partU_e.up (fun _ q => by cases q) (fun y q => by simp at q ⊢; omega))
theorem hlU_o {b i : Int} {s : SM} (hi : 0 ≤ i ∧ i < 3) : OLD (fun y => y < s.1 8 ∧ y ≠ b) s (hlU b i s) :=
  (bornU_o.mo (fun y q => q.1)).tr ((partU_o hi).mo (fun y q => ⟨q.2, by have := q.1; omega⟩))
theorem hlU_b {b i : Int} {s : SM} (hb : b < s.1 8) : (hlU b i s).2 9 b = s.2 9 b ∧ (hlU b i s).2 10 b = s.2 10 b ∧ (hlU b i s).2 11 b = s.2 11 b ∧ (hlU b i s).2 12 b = s.2 12 b ∧ (hlU b i s).2 13 b = s.2 13 b ∧ ∀ j, j ≠ i → (hlU b i s).2 14 (3 * b + j) = s.2 14 (3 * b + j) := by
  simp only [hlU, partU, bornU, setU, ua_2, us_2]
  refine ⟨?_, ?_, ?_, ?_, ?_, fun j hj => ?_⟩
  · rw [if_neg (by omega), if_neg (by omega), if_neg (by omega), if_neg (by omega), if_neg (by omega), if_neg (by omega)]
  · rw [if_neg (by omega), if_neg (by omega), if_neg (by omega), if_neg (by omega), if_neg (by omega), if_neg (by omega)]
  · rw [if_neg (by omega), if_neg (by omega), if_neg (by omega), if_neg (by omega), if_neg (by omega), if_neg (by omega)]
  · rw [if_neg (by omega), if_neg (by omega), if_neg (by omega), if_neg (by omega), if_neg (by omega), if_neg (by omega)]
  · rw [if_neg (by omega), if_neg (by omega), if_neg (by omega), if_neg (by omega), if_neg (by omega), if_neg (by omega)]
  · rw [if_neg (by omega), if_neg (by omega), if_neg (by omega), if_neg (by omega), if_neg (by omega), if_neg (by omega)]
theorem hlU_AT {b i : Int} {s : SM} {u : Term} (h : ATs s u) (hnd : (fl u).Nodup) (hb : hd u = b) (hi : na u = i) (hp : i < pO (s.2 9 b)) (h8 : 0 ≤ s.1 8) : ATs (hlU b i s) (.add u (.index (s.1 8).toNat)) ∧ (fl (Term.add u (.index (s.1 8).toNat))).Nodup := by
  have hlt := fun x hx => (AT_mem u h x hx).1
  have hbl := hlt b (by rw [← hb]; exact hd_mem u h)
  have hpo := pO_in (s.2 9 b)
  have hn := na_ge u
  have hO := hlU_o (b := b) (i := i) (s := s) (by omega)
  have hB := hlU_b (i := i) hbl.2
  have e8 : (((s.1 8).toNat : Nat) : Int) = s.1 8 := by omega
  obtain ⟨p1, p2, p3⟩ := partU_at (s := bornU s 0 (-9) (-9)) (b := b) (i := i) (c := s.1 8)
  have so8 : (hlU b i s).2 9 (s.1 8) = 0 := by
    show (partU (bornU s 0 (-9) (-9)) b i (s.1 8)).2 9 (s.1 8) = 0
    rw [partU_e.2 9 (by decide)]
    exact bornU_at.1
  refine ⟨⟨?_, ⟨?_, ?_⟩, ?_, ?_, ?_, ?_, ?_⟩, ?_⟩
  · refine AT_cg (by show s.1 8 ≤ s.1 8 + 1; omega) u h hnd (fun x hx => ?_) (fun x hx hne => ?_)
    · by_cases e : x = b
      · subst e
        exact ⟨hB.1, fun j j0 j1 j2 => hB.2.2.2.2.2 j (by have := j2 hb.symm; omega)⟩
      · have := hO x ⟨(hlt x hx).2, e⟩
        exact ⟨this.1.1, fun j j0 j1 _ => this.2.2 j j0 (by have := pO_in (s.2 9 x); omega)⟩
    · have := hO x ⟨(hlt x hx).2, by rw [← hb]; exact hne⟩
      exact this.2.1
  · rw [e8]; show s.1 8 < s.1 8 + 1; omega
  · rw [e8, so8]; decide
  · show na (Term.index (s.1 8).toNat) = pO ((hlU b i s).2 9 (hd (Term.index (s.1 8).toNat)))
    rw [show hd (Term.index (s.1 8).toNat) = s.1 8 from e8, so8]
    rfl
  · rw [hb, hB.1, hi]; exact hp
  · rw [hb, hi, show hd (Term.index (s.1 8).toNat) = s.1 8 from e8]; exact p1
  · rw [hb, show hd (Term.index (s.1 8).toNat) = s.1 8 from e8]; exact p2
  · rw [hi, show hd (Term.index (s.1 8).toNat) = s.1 8 from e8]; exact p3
  · refine List.nodup_append.mpr ⟨hnd, by simp [fl], fun x hx y hy e => ?_⟩
    have := List.mem_singleton.mp hy
    have := hlt x hx
    omega
theorem hlsU_ok {b : Int} : ∀ (m : Nat) (i : Int) (s : SM) (u : Term), ATs s u → (fl u).Nodup → hd u = b → na u = i → i + m = pO (s.2 9 b) → 0 ≤ s.1 8 → ATs (hlsU b m i s) (adds m (s.1 8).toNat u) ∧ (fl (adds m (s.1 8).toNat u)).Nodup ∧ (hlsU b m i s).1 8 = s.1 8 + m ∧ OLD (fun y => y < s.1 8 ∧ y ≠ b) s (hlsU b m i s) ∧ eqx [8] [9, 10, 11, 12, 13, 14] s (hlsU b m i s) ∧
    ((hlsU b m i s).2 9 b = s.2 9 b ∧ (hlsU b m i s).2 10 b = s.2 10 b ∧ (hlsU b m i s).2 11 b = s.2 11 b ∧ (hlsU b m i s).2 12 b = s.2 12 b ∧ (hlsU b m i s).2 13 b = s.2 13 b) ∧ ∀ y, s.1 8 ≤ y → y < s.1 8 + m → (hlsU b m i s).2 9 y = 0 ∧ (hlsU b m i s).2 10 y = -9 ∧ (hlsU b m i s).2 11 y = -9 := by
  intro m
  induction m with
  | zero => intro i s u h1 h2 h3 h4 h5 h6; exact ⟨h1, h2, by show s.1 8 = s.1 8 + ((0 : Nat) : Int); omega, OLD.rf, eqx.rf, ⟨rfl, rfl, rfl, rfl, rfl⟩, fun y a b => by omega⟩
  | succ m ih =>
    intro i s u h1 h2 h3 h4 h5 h6
    have hlt := (AT_mem u h1 _ (hd_mem u h1)).1
    have hbl : b < s.1 8 := by rw [← h3]; exact hlt.2
    have hpo := pO_in (s.2 9 b)
    have hn := na_ge u
    obtain ⟨a1, a2⟩ := hlU_AT h1 h2 h3 h4 (by omega) h6
    have hB := hlU_b (i := i) hbl
    have hO := hlU_o (b := b) (i := i) (s := s) (by omega)
    obtain ⟨b1, b2, b3, b4, b5, b6, b7⟩ := ih (i + 1) (hlU b i s) _ a1 a2 h3 (by show na u + 1 = i + 1; omega) (by rw [hB.1]; omega) (by show 0 ≤ s.1 8 + 1; omega)
    have e8 : ((hlU b i s).1 8).toNat = (s.1 8).toNat + 1 := by show (s.1 8 + 1).toNat = _; omega
    have n8 : (hlU b i s).1 8 = s.1 8 + 1 := rfl
    rw [e8] at b1 b2
    refine ⟨b1, b2, ?_, ?_, hlU_e.tr b5, ?_, fun y y0 y1 => ?_⟩
    · show (hlsU b m (i + 1) (hlU b i s)).1 8 = _
      rw [b3, n8]; omega
    · exact hO.tr (b4.mo (fun y q => ⟨by rw [n8]; have := q.1; omega, q.2⟩))
    · exact ⟨b6.1.trans hB.1, b6.2.1.trans hB.2.1, b6.2.2.1.trans hB.2.2.1, b6.2.2.2.1.trans hB.2.2.2.1, b6.2.2.2.2.trans hB.2.2.2.2.1⟩
    · by_cases e : y = s.1 8
      · subst e
        obtain ⟨⟨c1, c2, c3⟩, -⟩ := b4 (s.1 8) ⟨by rw [n8]; omega, by omega⟩
        obtain ⟨d1, d2, d3⟩ := bornU_at (s := s) (so := 0) (v := -9) (k := -9)
        refine ⟨c1.trans ?_, c2.trans ?_, c3.trans ?_⟩
        · show (partU (bornU s 0 (-9) (-9)) b i (s.1 8)).2 9 (s.1 8) = 0
          rw [partU_e.2 9 (by decide)]; exact d1
        · show (partU (bornU s 0 (-9) (-9)) b i (s.1 8)).2 10 (s.1 8) = -9
          rw [partU_e.2 10 (by decide)]; exact d2
        · show (partU (bornU s 0 (-9) (-9)) b i (s.1 8)).2 11 (s.1 8) = -9
          rw [partU_e.2 11 (by decide)]; exact d3
      · exact b7 y (by rw [n8]; omega) (by rw [n8]; omega)
theorem hlsU_x {ey ef : List Nat} {b : Int} (hy : 8 ∉ ey) : ∀ (m : Nat) (i : Int) (s w : SM), SX ey ef s w → SX ey ef (hlsU b m i s) (hlsU b m i w) := by
  intro m
  induction m with
  | zero => intro i s w h; exact h
  | succ m ih => intro i s w h; exact ih (i + 1) _ _ (hlU_x h hy)
