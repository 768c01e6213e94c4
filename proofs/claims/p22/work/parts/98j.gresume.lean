section
/-! areReasonsSame(), resume(n). -/
def arP (s : SM) (t : Term) (l : List Int) (p : Int × Int) : Bool := l.all fun x => decide (x = p.1 → (jdg s t).2.2 x = p.2)
/-- are the reasons those of the last working, for what stands in both -/
def arS (s : SM) (t : Term) (W : List (Int × Int)) : Bool := W.all (arP s t (fl t))
section
variable {iv : List (Int × Int)} {L : Nat} {h0 : MH} {s : SM} {t : Term} {d : Nat}
theorem same_row {w : SM} {k : Nat} {a : Int × Int} {F : Int → SM → Prop} (h : SHT s t) (hw : JL s w t) (hk : k < 60) (ha : w.2 64 k = a.1 ∧ w.2 65 k = a.2) : ∀ (m p : List Int), fl t = p ++ m → (arP s t m a = false → F 0 w) → (arP s t m a = true → wm iv L h0 (d + 1) 137 10 [lr 307, li (k + 1)] [] w (qi F)) → wm iv L h0 (d + 1) 137 20 [lr 307, li k, li p.length] [] w (qi F) := by
  obtain ⟨w1, w2, w3, w4, -⟩ := hw
  intro m
  induction m with
  | nil =>
    intro p e H0 H1
    have hl := LR_nil w3 e
    exact B137_20 ⟨fun _ => ⟨by omega, H1 rfl⟩, fun q => by omega⟩
  | cons y m ih =>
    intro p e H0 H1
    obtain ⟨c1, c2⟩ := LR_cons w3 e
    obtain ⟨c3, hy⟩ := h.fl80 e
    have hyl := h.lt hy
    have e' := e
    rw [app1] at e'
    have el : ((p ++ [y]).length : Int) = p.length + 1 := by simp
    have hg := (w4 y hy).1
    have ec : arP s t (y :: m) a = (decide (y = a.1 → (jdg s t).2.2 y = a.2) && arP s t m a) := rfl
    rw [ec] at H0 H1
    have go : (y = a.1 → (jdg s t).2.2 y = a.2) → wm iv L h0 (d + 1) 137 20 [lr 307, li k, li (p.length + 1)] [] w (qi F) := fun q => by
      rw [decide_eq_true q] at H0 H1
      have := ih (p ++ [y]) e' H0 H1
      rw [el] at this
      exact this
    refine B137_20 ⟨fun q => by omega, fun _ => ?_⟩
    rw [c1, ha.1, ha.2, hg]
    refine ⟨by omega, by omega, fun q => ⟨by omega, go (fun q2 => absurd q2 q)⟩, fun q => ⟨by omega, fun q2 => ⟨by omega, go (fun _ => q2)⟩, fun q2 => H0 ?_⟩⟩
    rw [decide_eq_false (fun q3 => q2 (q3 q))]
    rfl
theorem same_ok {W : List (Int × Int)} {F : Int → SM → Prop} (h : SHT s t) (hN : NB s) (hK : KIs s) (hW : WLs s W) (hD : 240 ≤ d) (hF : ∀ w, JL s w t → F (if arS s t W = true then 1 else 0) w) : cm iv L h0 d 137 [vr 307] s (qi F) := by
  obtain ⟨d, rfl⟩ : ∃ k, d = k + 1 := ⟨d - 1, by omega⟩
  refine B137 (jl_ok h hN hK (by omega) (by omega) (fun w hw => ?_))
  have e63 : w.1 63 = s.1 63 := hw.1.1 63 (by decide)
  have e64 : w.2 64 = s.2 64 := hw.1.2 64 (by decide)
  have e65 : w.2 65 = s.2 65 := hw.1.2 65 (by decide)
  obtain ⟨a1, a2, a3⟩ := hW
  have hF := hF w hw
  unfold arS at hF
  have key : ∀ (m p : List (Int × Int)), W = p ++ m → F (if m.all (arP s t (fl t)) = true then 1 else 0) w → wm iv L h0 (d + 1) 137 10 [lr 307, li p.length] [] w (qi F) := by
    intro m
    induction m with
    | nil =>
      intro p e H
      have hl : W.length = p.length := by rw [e]; simp
      exact B137_10 ⟨fun _ => H, fun q => by omega⟩
    | cons a m ih =>
      intro p e H
      have hl : W.length = p.length + (m.length + 1) := by rw [e]; simp
      have hk : W[p.length]? = some a := by rw [e]; simp
      have el : ((p ++ [a]).length : Int) = p.length + 1 := by simp
      have e' : W = (p ++ [a]) ++ m := by rw [e]; simp
      have r := a3 p.length a hk
      rw [← e64, ← e65] at r
      have ec : (a :: m).all (arP s t (fl t)) = (arP s t (fl t) a && m.all (arP s t (fl t))) := rfl
      rw [ec] at H
      refine B137_10 ⟨fun q => by omega, fun _ => same_row h hw (by omega) r (fl t) [] rfl (fun q => ?_) (fun q => ?_)⟩
      · rw [q] at H
        exact H
      · rw [q] at H
        have := ih (p ++ [a]) e' H
        rw [el] at this
        exact this
  exact key W [] rfl hF
end
end
section
/-! resume(n). -/
section
variable {iv : List (Int × Int)} {L : Nat} {h0 : MH} {s : SM} {t : Term} {d : Nat}
theorem BGW_J {w σ : SM} {n hf : Int} (h : AFT s t) (hK : KIs s) (hw : JL s w t) (hσ : BGW w t n hf σ) : BGW s t n hf σ := by
  obtain ⟨w1, w2, -⟩ := hw
  obtain ⟨s1, s2, s3, s4, s5, s6⟩ := hσ
  have ej : jdg w t = jdg s t := jdg_x h.1 (h.1.x w2 (by decide) (by decide)) h.2.1 hK w2 (by decide) (by decide)
  rw [ej] at s4 s6
  exact ⟨(w1.up (fun y q => by simp at q ⊢; omega) (fun y q => by simp at q ⊢; omega)).tr s1, (w2.up (fun y q => by cases q) (fun y q => by cases q)).tr s2, s3, s4, s5, s6⟩
theorem WDN_J {w v : SM} {R : RS} {hf : Int} (h : AFT s t) (hK : KIs s) (hw : JL s w t) (hv : WDN w t R hf v) : WDN s t R hf v := by
  obtain ⟨w1, w2, -⟩ := hw
  obtain ⟨v1, v2, v3, v4, v5⟩ := hv
  have ej : jdg w t = jdg s t := jdg_x h.1 (h.1.x w2 (by decide) (by decide)) h.2.1 hK w2 (by decide) (by decide)
  have e8 : w.1 8 = s.1 8 := w1.1 8 (by decide)
  refine ⟨(w2.up (fun y q => by cases q) (fun y q => by cases q)).tr v1, v2, ⟨fun y y0 y1 => v3.1 y y0 (by omega), fun y y0 => (v3.2 y (by omega)).trans (by rw [w1.2 42 (by decide)])⟩, ?_, fun q => ⟨(v5 q).1, (v5 q).2.1, ?_⟩⟩
  · unfold wrL at v4 ⊢
    rw [ej] at v4
    exact v4
  · exact VG_e e8.symm (w1.2 9 (by decide)).symm (w1.2 10 (by decide)).symm (w1.2 12 (by decide)).symm (w1.2 13 (by decide)).symm (v5 q).2.2
theorem tgt_e {w : SM} (e : w.2 42 = s.2 42) : tgt w t = tgt s t := by
  funext b
  unfold tgt
  rw [e]
theorem res_core {V : Term} {n v0 : Int} {F : Int → SM → Prop} (h : AFT s t) (hK : KIs s) (hFB : FBK s) (hD : 300 ≤ d) (hn : 0 ≤ n ∧ n ≤ 300) (hB : HB s) (hV : isV V = true ∧ VR s (1300 * s.1 55) (s.1 52) (640 * s.1 55) (s.1 54) V v0) (hO : VO s t V) (hN : FN s t) (H : ∀ σ v, BGW s t n (1 - s.1 55) σ → WDN s t ((EV σ n 60).2 V 0) (1 - s.1 55) v → F (outE ((EV σ n 60).2 V 0)) v) : cm iv L h0 d 134 [vr 307, vi n, vi (1 - s.1 55)] s (qv fun s4 => cm iv L h0 d 132 [vr 307, vi v0] s4 (qi fun r6 s5 => cm iv L h0 d 135 [vr 307, vi r6] s5 (qi fun r8 s7 => F r8 s7))) := by
  obtain ⟨b1, b2, b3⟩ := hB
  have hh : 1 - s.1 55 = 0 ∨ 1 - s.1 55 = 1 := by omega
  refine beginWork_ok h.1 h.2.1 hK (by omega) hh (fun σ hσ => ?_)
  have hX := BGW_X h hFB hn hh hσ
  have hS := BGW_S hn hh hσ
  have H' := H σ
  have v1 := hσ.2.2.1
  have e1 := hσ.1
  have e42 : σ.2 42 = s.2 42 := e1.2 42 (by decide)
  have hFN : FN σ t := fun y hy hs => by
    rw [e42]
    exact hN y hy (by rw [← e1.2 9 (by decide)]; exact hs)
  have hOσ : VO σ t V := by
    show VG σ t (tgt σ t) V
    rw [tgt_e e42]
    exact VG_e (e1.1 8 (by decide)) (e1.2 9 (by decide)) (e1.2 10 (by decide)) (e1.2 12 (by decide)) (e1.2 13 (by decide)) hO
  have hVσ : VR σ (1300 * s.1 55) (s.1 52) (640 * s.1 55) (s.1 54) V v0 := VR_k hV.2 ⟨fun f v hf _ _ => by rw [e1.2 f (by simp; omega)], fun _ _ _ => by rw [e1.2 53 (by decide)]⟩ (Int.le_refl _) (Int.le_refl _)
  have hOL : OLDH σ (1300 * s.1 55) (s.1 52) (640 * s.1 55) (s.1 54) := by
    unfold OLDH
    rw [v1.1]
    omega
  have hRO := (EV_ok hX hFN 60).2 V 0 hV.1 hOσ hn.1
  have oca := OCA_all (iv := iv) (L := L) (h0 := h0) hFN hOL 60 (Nat.le_refl _) _ _ v0 0 V σ hX hV.1 hOσ hVσ (hS.up (by decide))
  refine wci_mono oca (by omega) (fun r u hu => ?_)
  obtain ⟨⟨u1, u2, u3, u4, u5⟩, -⟩ := hu
  generalize (EV σ n 60).2 V 0 = R at *
  have r1 := hRO.1
  refine fin_ok h hn hh hσ u1 ?_ ⟨u4.1, u4.2.2.1, u4.2.2.2⟩ ⟨hRO.2.1, fun q => (hRO.2.2 q).2⟩ u5 (fun v hv => H' v hσ hv)
  omega
/-- what is to be known of the last working -/
def RSM (s : SM) (t : Term) (V : Term) : Prop := (s.1 61 = 0 ∨ s.1 61 = 1) → s.1 35 = 0 → HB s ∧ VH s V ∧ VO s t V ∧ FN s t
theorem resume_ok {V : Term} {W : List (Int × Int)} {n : Int} {F : Int → SM → Prop} (h : AFT s t) (hK : KIs s) (hFB : FBK s) (hD : 301 ≤ d) (hW : WLs s W) (hV : RSM s t V) (H1 : ¬ (0 ≤ n ∧ n ≤ 300) → F (-1) s) (H2 : (0 ≤ n ∧ n ≤ 300) → ¬ ((s.1 61 = 0 ∨ s.1 61 = 1) ∧ s.1 35 = 0) → F (-4) s) (H3 : ∀ w, (0 ≤ n ∧ n ≤ 300) → (s.1 61 = 0 ∨ s.1 61 = 1) ∧ s.1 35 = 0 → arS s t W = false → JL s w t → F (-4) w) (H4 : ∀ σ v, (0 ≤ n ∧ n ≤ 300) → (s.1 61 = 0 ∨ s.1 61 = 1) ∧ s.1 35 = 0 → arS s t W = true → BGW s t n (1 - s.1 55) σ → WDN s t ((EV σ n 60).2 V 0) (1 - s.1 55) v → F (outE ((EV σ n 60).2 V 0)) v) : cm iv L h0 d 138 [vr 307, vi n] s (qi F) := by
  obtain ⟨d, rfl⟩ : ∃ k, d = k + 1 := ⟨d - 1, by omega⟩
  have main : (0 ≤ n ∧ n ≤ 300) → (s.1 61 = 0 ∨ s.1 61 = 1) ∧ s.1 35 = 0 → cm iv L h0 d 137 [vr 307] s (qi fun r2 s1 => ((r2 ≠ 0 → (-2147483648 ≤ 1 - (s1.1 55) ∧ 1 - (s1.1 55) ≤ 2147483647) ∧ cm iv L h0 d 134 [vr 307, vi n, vi (1 - (s1.1 55))] s1 (qv fun s4 => cm iv L h0 d 132 [vr 307, vi (s1.1 62)] s4 (qi fun r6 s5 => cm iv L h0 d 135 [vr 307, vi r6] s5 (qi fun r8 s7 => F r8 s7)))) ∧ (r2 = 0 → F (-4) s1))) := by
    intro hn hq
    obtain ⟨hB, hVH, hO, hN⟩ := hV hq.1 hq.2
    refine same_ok h.1 h.2.1 hK hW (by omega) (fun w hw => ?_)
    have w1 := hw.1
    have w2 := hw.2.1
    have e55 : w.1 55 = s.1 55 := w1.1 55 (by decide)
    have e52 : w.1 52 = s.1 52 := w1.1 52 (by decide)
    have e54 : w.1 54 = s.1 54 := w1.1 54 (by decide)
    have e62 : w.1 62 = s.1 62 := w1.1 62 (by decide)
    have e42 : w.2 42 = s.2 42 := w1.2 42 (by decide)
    have e8 : w.1 8 = s.1 8 := w1.1 8 (by decide)
    have h' : AFT w t := h.x w2 (by decide) (by decide)
    have hB' : HB w := by unfold HB; rw [e55, e52, e54]; exact hB
    have hFB' : FBK w := by unfold FBK; rw [e8, e42]; exact hFB
    have hVw : isV V = true ∧ VR w (1300 * w.1 55) (w.1 52) (640 * w.1 55) (w.1 54) V (w.1 62) := by
      rw [e55, e52, e54, e62]
      exact ⟨hVH.1, VR_k hVH.2 ⟨fun f v hf _ _ => by rw [w1.2 f (by simp; omega)], fun _ _ _ => by rw [w1.2 53 (by decide)]⟩ (Int.le_refl _) (Int.le_refl _)⟩
    have hO' : VO w t V := by
      show VG w t (tgt w t) V
      rw [tgt_e e42]
      exact VG_e e8 (w1.2 9 (by decide)) (w1.2 10 (by decide)) (w1.2 12 (by decide)) (w1.2 13 (by decide)) hO
    have hN' : FN w t := fun y hy hs => by
      rw [e42]
      exact hN y hy (by rw [← w1.2 9 (by decide)]; exact hs)
    have hB1 := hB.1
    refine ⟨fun q => ⟨by omega, ?_⟩, fun q => H3 w hn hq (by
      cases e : arS s t W with
      | true => rw [e] at q; simp at q
      | false => rfl) hw⟩
    have ea : arS s t W = true := by
      cases e : arS s t W with
      | false => rw [e] at q; simp at q
      | true => rfl
    refine res_core h' (KI_x hK w2 (by decide) (by decide)) hFB' (by omega) hn hB' hVw hO' hN' (fun σ v hσ hv => ?_)
    rw [e55] at hσ hv
    exact H4 σ v hn hq ea (BGW_J h hK hw hσ) (WDN_J h hK hw hv)
  refine B138 ⟨fun hn => ⟨fun q => ⟨fun p => H2 hn (fun c => p c.2), fun p => main hn ⟨Or.inl q, p⟩⟩, fun q => ⟨fun p => H2 hn (fun c => by omega), fun p => ⟨fun p2 => H2 hn (fun c => p2 c.2), fun p2 => main hn ⟨Or.inr p, p2⟩⟩⟩⟩, fun hn => H1 (by omega)⟩
end
end
section
/-! Writing: bytes, numbers, words. -/
def outB (o : List Int) (x : Int) : List Int := if 400 ≤ o.length then o else o ++ [w8 x]
def dgs : Nat → Int → List Int
  | 0, _ => []
  | k + 1, z => z % 10 :: (if 0 < z / 10 then dgs k (z / 10) else [])
def p10 : Nat → Int
  | 0 => 1
  | k + 1 => 10 * p10 k
def outN (z : Int) (o : List Int) : List Int := ((dgs 10 (if z < 0 then -z else z)).reverse).foldl (fun o x => outB o (48 + x)) (if z < 0 then outB o 45 else o)
def outW (a : Nat) (o : List Int) : List Int := (strT a).foldl (fun o c => outB o c.toInt) o
/-- the bytes written -/
def BY (w : SM) (o : List Int) : Prop := (w.1 67 = o.length ∧ o.length ≤ 400) ∧ ∀ (k : Nat) (x : Int), o[k]? = some x → w.2 66 k = x
def DG (w : SM) (D : List Int) : Prop := ∀ (k : Nat) (x : Int), D[k]? = some x → w.2 70 k = x
theorem w8_b (z : Int) : -128 ≤ w8 z ∧ w8 z ≤ 127 := by
  have h1 := Int8.le_toInt (Int8.ofInt z)
  have h2 := Int8.toInt_lt (Int8.ofInt z)
  unfold w8
  omega
theorem outB_len (o : List Int) (x : Int) : o.length ≤ (outB o x).length ∧ (o.length < 400 → (outB o x).length = o.length + 1) ∧ ((outB o x).length ≤ 400 ∨ 400 < o.length) := by
  unfold outB
  split
  · omega
  · simp; omega
theorem app_at {α : Type} {l : List α} {x y : α} {k : Nat} (h : (l ++ [x])[k]? = some y) : l[k]? = some y ∨ (k = l.length ∧ y = x) := by
  by_cases hk : k < l.length
  · rw [List.getElem?_append_left hk] at h
    exact Or.inl h
  · rw [List.getElem?_append_right (by omega)] at h
    have := (List.getElem?_eq_some_iff.mp h).1
    simp at this
    have e : k = l.length := by omega
    subst e
    simp at h
    exact Or.inr ⟨rfl, h.symm⟩
section
variable {iv : List (Int × Int)} {L : Nat} {h0 : MH} {s : SM} {d : Nat}
theorem out_ok {x : Int} {o : List Int} {F : SM → Prop} (h : BY s o) (hF : ∀ w, eqx [67] [66] s w → BY w (outB o x) → F w) : cm iv L h0 d 141 [vr 307, vi x] s (qv F) := by
  have h1 := h.1
  refine B141 ⟨fun q => hF s eqx.rf ?_, fun q => ⟨by omega, w8_b x, by omega, hF _ (eqx_us (eqx_ua eqx.rf (by decide)) (by decide)) ?_⟩⟩
  · unfold outB
    rw [if_pos (by omega)]
    exact h
  · unfold outB
    rw [if_neg (by omega)]
    refine ⟨⟨?_, by simp; omega⟩, fun k y hk => ?_⟩
    · show s.1 67 + 1 = _
      simp; omega
    · show (if 66 = 66 ∧ (k : Int) = s.1 67 then w8 x else s.2 66 k) = y
      rcases app_at hk with hk | ⟨rfl, rfl⟩
      · have hl := (List.getElem?_eq_some_iff.mp hk).1
        rw [if_neg (by omega)]
        exact h.2 k y hk
      · rw [if_pos ⟨rfl, by omega⟩]
theorem wrd_at {a : Nat} {F : SM → Prop} (ha : 8 ≤ a ∧ a < 8 + NS0) : ∀ (m p : List Int32) (o : List Int) (w : SM), strT a = p ++ m → BY w o → (∀ v, eqx [67] [66] w v → BY v (m.foldl (fun o c => outB o c.toInt) o) → F v) → wm iv L h0 (d + 1) 143 2 [lr 307, lr a, li p.length] [] w (qv F) := by
  intro m
  induction m with
  | nil =>
    intro p o w e h hF
    have el : slen a = p.length := by unfold slen; rw [e]; simp
    exact B143_2 ⟨ha, fun _ => hF w eqx.rf h, fun q => by omega⟩
  | cons c m ih =>
    intro p o w e h hF
    have hb := (str_at (L := L) ha).2
    have el : slen a = p.length + (m.length + 1) := by unfold slen; rw [e]; simp
    have ec : scat a p.length = c.toInt := by unfold scat; rw [e]; simp
    have e' : strT a = (p ++ [c]) ++ m := by rw [e]; simp
    have el2 : ((p ++ [c]).length : Int) = p.length + 1 := by simp
    have hs : slen a ≤ 100 := by unfold slen; omega
    refine B143_2 ⟨ha, fun q => by omega, fun _ => ⟨by omega, ?_⟩⟩
    rw [ec]
    refine out_ok h (fun v v1 v2 => ⟨by omega, ?_⟩)
    have := ih (p ++ [c]) _ v e' v2 (fun u u1 u2 => hF u (v1.tr u1) u2)
    rw [el2] at this
    exact this
theorem word_ok {a : Nat} {o : List Int} {F : SM → Prop} (ha : 8 ≤ a ∧ a < 8 + NS0) (hd : 1 ≤ d) (h : BY s o) (hF : ∀ w, eqx [67] [66] s w → BY w (outW a o) → F w) : cm iv L h0 d 143 [vr 307, vr a] s (qv F) := by
  obtain ⟨d, rfl⟩ : ∃ k, d = k + 1 := ⟨d - 1, by omega⟩
  exact B143 (wrd_at ha (strT a) [] o s rfl h hF)
theorem num53 {F : SM → Prop} : ∀ (m : List Int) (o : List Int) (w : SM), (∀ x, x ∈ m → 0 ≤ x ∧ x ≤ 9) → m.length ≤ 12 → DG w m.reverse → BY w o → (∀ v, eqx [67] [66] w v → BY v (m.foldl (fun o x => outB o (48 + x)) o) → F v) → wm iv L h0 (d + 1) 142 53 [lr 307, ln, ln, ln, ln, li (m.length - 1)] [] w (qv F) := by
  intro m
  induction m with
  | nil =>
    intro o w _ _ _ h hF
    exact B142_53 ⟨fun _ => hF w eqx.rf h, fun q => by simp at q⟩
  | cons x m ih =>
    intro o w hm hl hD h hF
    have el : (((x :: m).length : Nat) : Int) = m.length + 1 := by simp
    have hx := hm x (List.mem_cons_self ..)
    have hlt : m.length + 1 ≤ 12 := by simpa using hl
    have ex : w.2 70 m.length = x := by
      have := hD m.length x (by simp)
      exact this
    rw [el]
    refine B142_53 ⟨fun q => by omega, fun _ => ⟨by omega, ?_⟩⟩
    rw [show (m.length : Int) + 1 - 1 = m.length by omega, ex]
    refine ⟨by omega, out_ok h (fun v v1 v2 => ⟨by omega, ?_⟩)⟩
    refine ih _ v (fun y hy => hm y (List.mem_cons_of_mem _ hy)) (by omega) (fun k y hk => ?_) v2 (fun u u1 u2 => hF u (v1.tr u1) u2)
    rw [v1.2 70 (by decide)]
    refine hD k y ?_
    have hk1 := (List.getElem?_eq_some_iff.mp hk).1
    rw [List.reverse_cons, List.getElem?_append_left hk1]
    exact hk
theorem dgs_in : ∀ (k : Nat) (z x : Int), x ∈ dgs k z → 0 ≤ x ∧ x ≤ 9 := by
  intro k
  induction k with
  | zero => intro z x h; cases h
  | succ k ih =>
    intro z x h
    unfold dgs at h
    rcases List.mem_cons.mp h with rfl | h
    · omega
    · split at h
      · exact ih _ x h
      · cases h
theorem dgs_len : ∀ (k : Nat) (z : Int), (dgs k z).length ≤ k := by
  intro k
  induction k with
  | zero => intro z; exact Nat.le_refl _
  | succ k ih =>
    intro z
    unfold dgs
    split
    · have := ih (z / 10)
      simp; omega
    · simp
theorem p10_le : ∀ k : Nat, k ≤ 10 → 1 ≤ p10 k ∧ p10 k ≤ 10000000000 := by
  intro k hk
  have : k = 0 ∨ k = 1 ∨ k = 2 ∨ k = 3 ∨ k = 4 ∨ k = 5 ∨ k = 6 ∨ k = 7 ∨ k = 8 ∨ k = 9 ∨ k = 10 := by omega
  rcases this with rfl | rfl | rfl | rfl | rfl | rfl | rfl | rfl | rfl | rfl | rfl <;> decide
theorem num19 {F : SM → Prop} : ∀ (k : Nat) (z : Int) (D : List Int) (w : SM), 0 ≤ z → z < p10 (k + 1) → D.length + k ≤ 11 → k + 1 ≤ 10 → DG w D → (∀ v, eqx [] [70] w v → DG v (D ++ dgs (k + 1) z) → wm iv L h0 (d + 1) 142 53 [lr 307, ln, ln, ln, ln, li ((D ++ dgs (k + 1) z).length - 1)] [] v (qv F)) → wm iv L h0 (d + 1) 142 19 [lr 307, ln, ll z, ln, li D.length] [] w (qv F) := by
  intro k
  induction k with
  | zero =>
    intro z D w hz h1 hl hk hD hF
    have e9 : p10 (0 + 1) = 10 := by decide
    have et : z.tdiv 10 = z / 10 := Int.tdiv_eq_ediv_of_nonneg hz
    have ez : z / 10 = 0 := by omega
    have ew : w32 (z - z / 10 * 10) = z % 10 := by rw [ez]; rw [w32_id (by unfold inR; omega)]; omega
    have eg : dgs (0 + 1) z = [z % 10] := by
      unfold dgs
      rw [if_neg (by omega)]
    rw [eg] at hF
    refine B142_19 ?_
    rw [et, ew, ez]
    refine ⟨by unfold inL; omega, by unfold inL; omega, by unfold inL; omega, by omega, by omega, by unfold inL; omega, fun q => ?_, fun _ => ⟨by omega, ?_⟩⟩
    · unfold lcp at q
      simp at q
    · have := hF (ua w 70 D.length (z % 10)) (eqx_ua eqx.rf (by decide)) (fun j y hj => ?_)
      · rw [show (((D ++ [z % 10]).length : Nat) : Int) = D.length + 1 by simp] at this
        exact this
      · show (if 70 = 70 ∧ (j : Int) = D.length then z % 10 else w.2 70 j) = y
        rcases app_at hj with hj | ⟨rfl, rfl⟩
        · have := (List.getElem?_eq_some_iff.mp hj).1
          rw [if_neg (by omega)]
          exact hD j y hj
        · rw [if_pos ⟨rfl, rfl⟩]
  | succ k ih =>
    intro z D w hz h1 hl hk hD hF
    have e9 : p10 (k + 1 + 1) = 10 * p10 (k + 1) := rfl
    have hp := p10_le (k + 1) (by omega)
    have hp2 := p10_le (k + 1 + 1) (by omega)
    have et : z.tdiv 10 = z / 10 := Int.tdiv_eq_ediv_of_nonneg hz
    have ew : w32 (z - z / 10 * 10) = z % 10 := by rw [w32_id (by unfold inR; omega)]; omega
    have eg : dgs (k + 1 + 1) z = z % 10 :: (if 0 < z / 10 then dgs (k + 1) (z / 10) else []) := rfl
    have dg : DG (ua w 70 D.length (z % 10)) (D ++ [z % 10]) := fun j y hj => by
      show (if 70 = 70 ∧ (j : Int) = D.length then z % 10 else w.2 70 j) = y
      rcases app_at hj with hj | ⟨rfl, rfl⟩
      · have := (List.getElem?_eq_some_iff.mp hj).1
        rw [if_neg (by omega)]
        exact hD j y hj
      · rw [if_pos ⟨rfl, rfl⟩]
    have el : (((D ++ [z % 10]).length : Nat) : Int) = D.length + 1 := by simp
    have eln : (D ++ [z % 10]).length = D.length + 1 := by simp
    refine B142_19 ?_
    rw [et, ew]
    refine ⟨by unfold inL; omega, by unfold inL; omega, by unfold inL; omega, by omega, by omega, by unfold inL; omega, fun q => ?_, fun q => ⟨by omega, ?_⟩⟩
    · have q1 : 0 < z / 10 := by
        unfold lcp at q
        split at q
        · assumption
        · split at q <;> omega
      rw [if_pos q1] at eg
      have := ih (z / 10) (D ++ [z % 10]) _ (by omega) (by omega) (by omega) (by omega) dg (fun v v1 v2 => ?_)
      · rw [el] at this
        exact this
      · have e3 : D ++ [z % 10] ++ dgs (k + 1) (z / 10) = D ++ dgs (k + 1 + 1) z := by rw [eg]; simp
        rw [e3] at v2 ⊢
        exact hF v ((eqx_ua eqx.rf (by decide)).tr v1) v2
    · have q1 : ¬ 0 < z / 10 := fun q1 => by
        unfold lcp at q
        rw [if_pos q1] at q
        omega
      rw [if_neg q1] at eg
      rw [eg] at hF
      have := hF _ (eqx_ua eqx.rf (by decide)) dg
      rw [el] at this
      exact this
theorem num_ok {z : Int} {o : List Int} {F : SM → Prop} (hz : -2147483648 ≤ z ∧ z ≤ 2147483647) (hd : 1 ≤ d) (h : BY s o) (hF : ∀ w, eqx [67] [66, 70] s w → BY w (outN z o) → F w) : cm iv L h0 d 142 [vr 307, vi z] s (qv F) := by
  obtain ⟨d, rfl⟩ : ∃ k, d = k + 1 := ⟨d - 1, by omega⟩
  have e10 : p10 (9 + 1) = 10000000000 := by decide
  have go : ∀ (y : Int) (o' : List Int) (w : SM), 0 ≤ y → y < p10 (9 + 1) → BY w o' → (∀ v, eqx [67] [66, 70] w v → BY v (((dgs 10 y).reverse).foldl (fun o x => outB o (48 + x)) o') → F v) → wm iv L h0 (d + 1) 142 19 [lr 307, ln, ll y, ln, li 0] [] w (qv F) := fun y o' w y0 y1 hB hG => by
    refine num19 9 y [] w y0 y1 (by decide) (by decide) (fun k x hk => by simp at hk) (fun v v1 v2 => ?_)
    have hl := dgs_len 10 y
    have := num53 (iv := iv) (L := L) (h0 := h0) (d := d) (F := F) (dgs 10 y).reverse o' v (fun x hx => dgs_in 10 y x (by simpa using hx)) (by simp; omega) (by rw [List.reverse_reverse]; exact v2) ⟨by rw [v1.1 67 (by decide)]; exact hB.1, fun k x hk => by rw [v1.2 66 (by decide)]; exact hB.2 k x hk⟩ (fun u u1 u2 => hG u ((v1.up (fun y q => by cases q) (fun y q => by simp at q ⊢; omega)).tr (u1.up (fun y q => q) (fun y q => by simp at q ⊢; omega))) u2)
    rw [List.length_reverse] at this
    exact this
  unfold outN at hF
  refine B142 ⟨fun q => ?_, fun q => out_ok h (fun w w1 w2 => ?_)⟩
  · rw [if_neg (by omega), if_neg (by omega)] at hF
    exact go z o s q (by omega) h hF
  · rw [if_pos q, if_pos q] at hF
    exact go (-z) _ w (by omega) (by omega) w2 (fun v v1 v2 => hF v ((w1.up (fun y q => q) (fun y q => by simp at q ⊢; omega)).tr v1) v2)
end
end
section
/-! Writing a value: its bytes, the holes in it. -/
def pB (x : Int) (o : List Int × List Term) : List Int × List Term := (outB o.1 x, o.2)
def pN (z : Int) (o : List Int × List Term) : List Int × List Term := (outN z o.1, o.2)
def pW (a : Nat) (o : List Int × List Term) : List Int × List Term := (outW a o.1, o.2)
def wrd (k : Int) : Nat := if k = 4 then 21 else if k = 5 then 22 else if k = 6 then 23 else if k = 7 then 24 else if k = 9 then 25 else if k = 11 then 26 else if k = 13 then 27 else 28
def gd (o x : List Int × List Term) : List Int × List Term := if o.1.length = 400 then o else x
def outZ (k n : Int) (o : List Int × List Term) : List Int × List Term := if k = 11 then pB 41 (pN n (pB 32 o)) else pB 41 o
def outT (so : Int → Int) : Term → List Int × List Term → List Int × List Term
  | .int z, o => gd o (pN z.toInt o)
  | .arg n, o => gd o (pW (if n = 1 then 19 else 20) o)
  | .index x, o => gd o (pB (97 + x) (pB 33 o))
  | .sub (.index d) _, o => gd o (pN d (pB 100 o))
  | .add A B, o => gd o (pB 93 (outT so B (pB 32 (outT so A (pB 91 o)))))
  | .div (.index b) E, o => gd o (pN b (pB 63 (o.1, o.2 ++ [.div (.index b) E])))
  | .length A, o => gd o (pB 125 (outT so A (pB 123 o)))
  | .rem (.index n) (.elem A (.elem B _)), o => gd o (outZ (so n) n (if isV B = true then outT so B (pB 32 (outT so A (pB 32 (pW (wrd (so n)) (pB 40 o))))) else outT so A (pB 32 (pW (wrd (so n)) (pB 40 o)))))
  | _, o => o
def OU (s : SM) (lo hi elo ehi : Int) (o : List Int × List Term) (w : SM) : Prop := eqx [67, 69] [66, 68, 70] s w ∧ BY w o.1 ∧ (w.1 69 = o.2.length ∧ o.2.length ≤ o.1.length) ∧ ∀ (k : Nat) (V : Term), o.2[k]? = some V → VR s lo hi elo ehi V (w.2 68 k) ∧ isW V = true
theorem outB_ge (o : List Int) (x : Int) : o.length ≤ (outB o x).length := (outB_len o x).1
theorem fold_ge {α : Type} (f : α → Int) : ∀ (m : List α) (o : List Int), o.length ≤ (m.foldl (fun o c => outB o (f c)) o).length := by
  intro m
  induction m with
  | nil => intro o; exact Nat.le_refl _
  | cons c m ih => intro o; exact Nat.le_trans (outB_ge o (f c)) (ih _)
theorem outN_ge (z : Int) (o : List Int) : o.length ≤ (outN z o).length := by
  unfold outN
  refine Nat.le_trans ?_ (fold_ge (fun x => 48 + x) _ _)
  split
  · exact outB_ge _ _
  · exact Nat.le_refl _
theorem outW_ge (a : Nat) (o : List Int) : o.length ≤ (outW a o).length := fold_ge (fun c : Int32 => c.toInt) _ _
section
variable {iv : List (Int × Int)} {L : Nat} {h0 : MH} {s w : SM} {lo hi elo ehi : Int} {o : List Int × List Term} {d : Nat}
theorem oB {x : Int} {F : SM → Prop} (h : OU s lo hi elo ehi o w) (hF : ∀ v, OU s lo hi elo ehi (pB x o) v → (o.1.length ≤ (pB x o).1.length ∧ (o.1.length < 400 → (pB x o).1.length = o.1.length + 1)) → F v) : cm iv L h0 d 141 [vr 307, vi x] w (qv F) := by
  obtain ⟨h1, h2, h3, h4⟩ := h
  have hl := outB_len o.1 x
  refine out_ok h2 (fun v v1 v2 => hF v ⟨h1.tr (v1.up (fun y q => by simp at q ⊢; omega) (fun y q => by simp at q ⊢; omega)), v2, ⟨?_, Nat.le_trans h3.2 hl.1⟩, fun k V hk => ?_⟩ ⟨hl.1, hl.2.1⟩)
  · rw [v1.1 69 (by decide)]; exact h3.1
  · rw [v1.2 68 (by decide)]; exact h4 k V hk
theorem oN {z : Int} {F : SM → Prop} (hz : -2147483648 ≤ z ∧ z ≤ 2147483647) (hd : 1 ≤ d) (h : OU s lo hi elo ehi o w) (hF : ∀ v, OU s lo hi elo ehi (pN z o) v → o.1.length ≤ (pN z o).1.length → F v) : cm iv L h0 d 142 [vr 307, vi z] w (qv F) := by
  obtain ⟨h1, h2, h3, h4⟩ := h
  have hl := outN_ge z o.1
  refine num_ok hz hd h2 (fun v v1 v2 => hF v ⟨h1.tr (v1.up (fun y q => by simp at q ⊢; omega) (fun y q => by simp at q ⊢; omega)), v2, ⟨?_, Nat.le_trans h3.2 hl⟩, fun k V hk => ?_⟩ hl)
  · rw [v1.1 69 (by decide)]; exact h3.1
  · rw [v1.2 68 (by decide)]; exact h4 k V hk
theorem oW {a : Nat} {F : SM → Prop} (ha : 8 ≤ a ∧ a < 29) (hd : 1 ≤ d) (h : OU s lo hi elo ehi o w) (hF : ∀ v, OU s lo hi elo ehi (pW a o) v → o.1.length ≤ (pW a o).1.length → F v) : cm iv L h0 d 143 [vr 307, vr a] w (qv F) := by
  obtain ⟨h1, h2, h3, h4⟩ := h
  have hl := outW_ge a o.1
  refine word_ok (show 8 ≤ a ∧ a < 8 + 21 from ha) hd h2 (fun v v1 v2 => hF v ⟨h1.tr (v1.up (fun y q => by simp at q ⊢; omega) (fun y q => by simp at q ⊢; omega)), v2, ⟨?_, Nat.le_trans h3.2 hl⟩, fun k V hk => ?_⟩ hl)
  · rw [v1.1 69 (by decide)]; exact h3.1
  · rw [v1.2 68 (by decide)]; exact h4 k V hk
theorem wrd_ok {k : Int} {F : Nat → SM → Prop} (hF : F (wrd k) w) : cm iv L h0 d 144 [vi k] w (qa F) := by
  refine B144 ⟨fun q => ?_, fun q => ?_, fun q => ?_, fun q => ?_, fun q => ?_, fun q => ?_, fun q => ?_, fun q => ?_⟩
  · subst q; exact hF
  · subst q; exact hF
  · subst q; exact hF
  · subst q; exact hF
  · have e : wrd k = 28 := by
      unfold wrd
      rw [if_neg (by omega), if_neg (by omega), if_neg (by omega), if_neg (by omega), if_neg (by omega), if_neg (by omega), if_neg (by omega)]
    rw [e] at hF
    exact hF
  · subst q; exact hF
  · subst q; exact hF
  · subst q; exact hF
theorem wrd_in (k : Int) : 8 ≤ wrd k ∧ wrd k < 29 := by
  unfold wrd
  repeat' split
  all_goals decide
/-- the way of one value -/
def WV (iv : List (Int × Int)) (L : Nat) (h0 : MH) (s : SM) (lo hi elo ehi : Int) (V : Term) : Prop := ∀ (v : Int) (o : List Int × List Term) (w : SM) (d : Nat) (F : SM → Prop), VR s lo hi elo ehi V v → OU s lo hi elo ehi o w → 4 ≤ d → 404 ≤ d + o.1.length → (∀ u, OU s lo hi elo ehi (outT (s.2 9) V o) u → o.1.length ≤ (outT (s.2 9) V o).1.length → F u) → cm iv L h0 (d + 1) 145 [vr 307, vi v] w (qv F)
theorem OU.c {f : Nat} {v : Int} (h : OU s lo hi elo ehi o w) (hf : f < 66) : w.2 f v = s.2 f v := by
  rw [h.1.2 f (by simp; omega)]
theorem wv_full {V : Term} {F : SM → Prop} (hV : isV V = true) (h : OU s lo hi elo ehi o w) (h4 : w.1 67 = 400) (hF : ∀ u, OU s lo hi elo ehi (outT (s.2 9) V o) u → o.1.length ≤ (outT (s.2 9) V o).1.length → F u) : F w := by
  have hl : o.1.length = 400 := by have := h.2.1.1.1; omega
  have e : outT (s.2 9) V o = o := by
    unfold outT
    split <;> first | exact if_pos hl | rfl
  rw [e] at hF
  exact hF w h (Nat.le_refl _)
theorem gd_lt {x : List Int × List Term} (h : OU s lo hi elo ehi o w) (q : w.1 67 ≠ 400) : gd o x = x ∧ o.1.length < 400 := by
  have hl := h.2.1.1
  exact ⟨if_neg (by omega), by omega⟩
theorem wv_int {z : Int32} (hb : 0 ≤ lo ∧ hi ≤ 2600) : WV iv L h0 s lo hi elo ehi (.int z) := fun v o w d F hv h d4 _ hF => by
  have k := hv
  obtain ⟨k0, k1, k2, -⟩ := k
  have c1 := h.c (f := 46) (v := v) (by decide)
  have c2 := h.c (f := 47) (v := v) (by decide)
  have z1 := z.le_toInt
  have z2 := z.toInt_lt
  refine B145 ⟨fun q => ⟨by omega, fun q => ?_, fun q => by omega, fun q => by omega, fun q => by omega, fun q => by omega, fun q => by omega, fun q => by omega, fun q => by omega⟩, fun q => wv_full (V := .int z) rfl h q hF⟩
  rw [c2, k2]
  have hF : ∀ u, OU s lo hi elo ehi (gd o (pN z.toInt o)) u → o.1.length ≤ (gd o (pN z.toInt o)).1.length → F u := hF
  rw [(gd_lt h (by assumption)).1] at hF
  exact oN (by omega) (by omega) h hF
theorem wv_arg {n : Nat} (hb : 0 ≤ lo ∧ hi ≤ 2600) : WV iv L h0 s lo hi elo ehi (.arg n) := fun v o w d F hv h d4 _ hF => by
  have k := hv
  obtain ⟨k0, k1, k2, -⟩ := k
  have c1 := h.c (f := 46) (v := v) (by decide)
  have c2 := h.c (f := 47) (v := v) (by decide)
  refine B145 ⟨fun q => ⟨by omega, fun q => by omega, fun q => ?_, fun q => by omega, fun q => by omega, fun q => by omega, fun q => by omega, fun q => by omega, fun q => by omega⟩, fun q => wv_full (V := .arg n) rfl h q hF⟩
  have hF : ∀ u, OU s lo hi elo ehi (gd o (pW (if n = 1 then 19 else 20) o)) u → o.1.length ≤ (gd o (pW (if n = 1 then 19 else 20) o)).1.length → F u := hF
  rw [(gd_lt h (by assumption)).1] at hF
  rw [c2, k2]
  refine ⟨fun q => ?_, fun q => ?_⟩
  · rw [if_neg (by omega)] at hF
    exact oW (by decide) (by omega) h hF
  · rw [if_pos (by omega)] at hF
    exact oW (by decide) (by omega) h hF
theorem wv_index {x : Nat} (hb : 0 ≤ lo ∧ hi ≤ 2600) (hx : x < 26) : WV iv L h0 s lo hi elo ehi (.index x) := fun v o w d F hv h d4 _ hF => by
  have k := hv
  obtain ⟨k0, k1, k2, -⟩ := k
  have c1 := h.c (f := 46) (v := v) (by decide)
  refine B145 ⟨fun q => ⟨by omega, fun q => by omega, fun q => by omega, fun q => by omega, fun q => by omega, fun q => by omega, fun q => ?_, fun q => by omega, fun q => by omega⟩, fun q => wv_full (V := .index x) rfl h q hF⟩
  have hF : ∀ u, OU s lo hi elo ehi (gd o (pB (97 + x) (pB 33 o))) u → o.1.length ≤ (gd o (pB (97 + x) (pB 33 o))).1.length → F u := hF
  rw [(gd_lt h (by assumption)).1] at hF
  refine oB h (fun u hu e => ?_)
  have c2 := hu.c (f := 47) (v := v) (by decide)
  rw [c2, k2]
  exact ⟨by omega, oB hu (fun u' hu' e' => hF u' hu' (Nat.le_trans e.1 e'.1))⟩
theorem wv_sub {n : Nat} {E : Term} (hb : 0 ≤ lo ∧ hi ≤ 2600) (hx : n < 3000) : WV iv L h0 s lo hi elo ehi (.sub (.index n) E) := fun v o w d F hv h d4 _ hF => by
  have k := hv
  obtain ⟨_, ⟨k0, k1, k2, -⟩, -⟩ := k
  have c1 := h.c (f := 46) (v := v) (by decide)
  refine B145 ⟨fun q => ⟨by omega, fun q => by omega, fun q => by omega, fun q => ?_, fun q => by omega, fun q => by omega, fun q => by omega, fun q => by omega, fun q => by omega⟩, fun q => wv_full (V := .sub (.index n) E) rfl h q hF⟩
  have hF : ∀ u, OU s lo hi elo ehi (gd o (pN n (pB 100 o))) u → o.1.length ≤ (gd o (pN n (pB 100 o))).1.length → F u := hF
  rw [(gd_lt h (by assumption)).1] at hF
  refine oB h (fun u hu e => ?_)
  have c2 := hu.c (f := 47) (v := v) (by decide)
  rw [c2, k2]
  exact oN (by omega) (by omega) hu (fun u' hu' e' => hF u' hu' (Nat.le_trans e.1 e'))
theorem wv_add {A B : Term} (hb : 0 ≤ lo ∧ hi ≤ 2600) (hA : WV iv L h0 s lo hi elo ehi A) (hB : WV iv L h0 s lo hi elo ehi B) : WV iv L h0 s lo hi elo ehi (.add A B) := fun v o w d F hv h d4 dl hF => by
  have k := hv
  obtain ⟨a, b, ⟨k0, k1, k2, k3, k4, -⟩, ka, kb⟩ := k
  have c1 := h.c (f := 46) (v := v) (by decide)
  refine B145 ⟨fun q => ⟨by omega, fun q => by omega, fun q => by omega, fun q => by omega, fun q => ?_, fun q => by omega, fun q => by omega, fun q => by omega, fun q => by omega⟩, fun q => wv_full (V := .add A B) rfl h q hF⟩
  have hF : ∀ u, OU s lo hi elo ehi (gd o (pB 93 (outT (s.2 9) B (pB 32 (outT (s.2 9) A (pB 91 o)))))) u → o.1.length ≤ (gd o (pB 93 (outT (s.2 9) B (pB 32 (outT (s.2 9) A (pB 91 o)))))).1.length → F u := hF
  obtain ⟨g1, g2⟩ := gd_lt (x := pB 93 (outT (s.2 9) B (pB 32 (outT (s.2 9) A (pB 91 o))))) h (by assumption)
  rw [g1] at hF
  obtain ⟨d, rfl⟩ : ∃ k, d = k + 1 := ⟨d - 1, by omega⟩
  refine oB h (fun u1 h1 e1 => ?_)
  have e1' := e1.2 g2
  rw [h1.c (f := 48) (v := v) (by decide), k3]
  refine hA a _ u1 d _ ka h1 (by omega) (by omega) (fun u2 h2 e2 => oB h2 (fun u3 h3 e3 => ?_))
  rw [h3.c (f := 49) (v := v) (by decide), k4]
  refine hB b _ u3 d _ kb h3 (by omega) (by omega) (fun u4 h4 e4 => oB h4 (fun u5 h5 e5 => hF u5 h5 (by omega)))
theorem wv_len {A : Term} (hb : 0 ≤ lo ∧ hi ≤ 2600) (hA : WV iv L h0 s lo hi elo ehi A) : WV iv L h0 s lo hi elo ehi (.length A) := fun v o w d F hv h d4 dl hF => by
  have k := hv
  obtain ⟨a, ⟨k0, k1, k2, k3, -⟩, ka⟩ := k
  have c1 := h.c (f := 46) (v := v) (by decide)
  refine B145 ⟨fun q => ⟨by omega, fun q => by omega, fun q => by omega, fun q => by omega, fun q => by omega, fun q => by omega, fun q => by omega, fun q => ?_, fun q => by omega⟩, fun q => wv_full (V := .length A) rfl h q hF⟩
  have hF : ∀ u, OU s lo hi elo ehi (gd o (pB 125 (outT (s.2 9) A (pB 123 o)))) u → o.1.length ≤ (gd o (pB 125 (outT (s.2 9) A (pB 123 o)))).1.length → F u := hF
  obtain ⟨g1, g2⟩ := gd_lt (x := pB 125 (outT (s.2 9) A (pB 123 o))) h (by assumption)
  rw [g1] at hF
  obtain ⟨d, rfl⟩ : ∃ k, d = k + 1 := ⟨d - 1, by omega⟩
  refine oB h (fun u1 h1 e1 => ?_)
  have e1' := e1.2 g2
  rw [h1.c (f := 48) (v := v) (by decide), k3]
  exact hA a _ u1 d _ ka h1 (by omega) (by omega) (fun u2 h2 e2 => oB h2 (fun u3 h3 e3 => hF u3 h3 (by omega)))
end
end
section
/-! Writing a hole, what waits on one; write1. -/
/-- a value of nodes born, in the sheet or not -/
def VB (s : SM) : Term → Prop
  | .int _ => True
  | .arg n => n ≤ 1
  | .index x => x < 26
  | .sub (.index d) E => (d : Int) < s.1 8 ∧ isE 26 E ∧ VB s E
  | .add A B => (isV A = true ∧ VB s A) ∧ isV B = true ∧ VB s B
  | .div (.index b) E => (b : Int) < s.1 8 ∧ isE 26 E ∧ VB s E
  | .length A => isV A = true ∧ VB s A
  | .rem (.index n) (.elem A (.elem B E)) => ((n : Int) < s.1 8 ∧ isV A = true ∧ VB s A) ∧ ((isV B = true ∧ VB s B) ∨ B = .null) ∧ ((isE 26 E ∧ VB s E) ∨ E = .null)
  | .mul r x => VB s r ∧ (x = .null ∨ (isV x = true ∧ VB s x))
  | .null => True
  | _ => False
theorem VB_g {s : SM} {t : Term} {g : Int → Int} (hT : SHT s t) : ∀ (n : Nat) (V : Term), SizeOf.sizeOf V < n → VG s t g V → VB s V := by
  intro n
  induction n with
  | zero => intro V h; omega
  | succ n ih =>
    intro V hn h
    cases V with
    | int z => trivial
    | arg z => exact h
    | index x => exact h
    | null => trivial
    | sub d E =>
      cases d with
      | index d => exact ⟨(hT.lt h.1.1).2.1, h.2.2.1, ih E (by simp at hn; omega) h.2.2.2⟩
      | _ => exact h.elim
    | add A B => exact ⟨⟨h.1.1, ih A (by simp at hn; omega) h.1.2⟩, h.2.1, ih B (by simp at hn; omega) h.2.2⟩
    | div d E =>
      cases d with
      | index b => exact ⟨h.1.1, h.2.2.1, ih E (by simp at hn; omega) h.2.2.2⟩
      | _ => exact h.elim
    | length A => exact ⟨h.1, ih A (by simp at hn; omega) h.2⟩
    | rem b q =>
      cases b with
      | index b =>
        cases q with
        | elem A q =>
          cases q with
          | elem B E =>
            obtain ⟨⟨b1, a1, a2⟩, hc⟩ := h
            refine ⟨⟨(hT.lt b1).2.1, a1, ih A (by simp at hn; omega) a2⟩, ?_⟩
            rcases hc with ⟨_, c2, c3, c4⟩ | ⟨_, c2, c3, _, c5⟩ | ⟨_, c2, c3⟩
            · exact ⟨Or.inl ⟨c2, ih B (by simp at hn; omega) c3⟩, Or.inr c4⟩
            · exact ⟨Or.inr c2, Or.inl ⟨c3, ih E (by simp at hn; omega) c5⟩⟩
            · exact ⟨Or.inr c2, Or.inr c3⟩
          | _ => exact h.elim
        | _ => exact h.elim
      | _ => exact h.elim
    | mul r x =>
      have h : VG s t g r ∧ (x = .null ∨ (isV x = true ∧ VG s t g x)) := h
      exact ⟨ih r (by simp at hn; omega) h.1, h.2.imp id (fun q => ⟨q.1, ih x (by simp at hn; omega) q.2⟩)⟩
    | _ => exact h.elim
section
variable {iv : List (Int × Int)} {L : Nat} {h0 : MH} {s w : SM} {t : Term} {lo hi elo ehi : Int} {o : List Int × List Term} {d : Nat}
theorem wv_div {n : Nat} {E : Term} (hb : 0 ≤ lo ∧ hi ≤ 2600) (hx : n < 3000) : WV iv L h0 s lo hi elo ehi (.div (.index n) E) := fun v o w d F hv h d4 _ hF => by
  have k := hv
  obtain ⟨_, ⟨k0, k1, k2, -⟩, -⟩ := k
  have c1 := h.c (f := 46) (v := v) (by decide)
  obtain ⟨h1, h2, h3, h4⟩ := h
  have hl := h2.1
  refine B145 ⟨fun q => ⟨by omega, fun q => by omega, fun q => by omega, fun q => by omega, fun q => by omega, fun _ => ⟨by omega, by omega, ?_⟩, fun q => by omega, fun q => by omega, fun q => by omega⟩, fun q => wv_full (V := .div (.index n) E) rfl ⟨h1, h2, h3, h4⟩ q hF⟩
  have q400 : o.1.length < 400 := by omega
  have eg : outT (s.2 9) (.div (.index n) E) o = pN n (pB 63 (o.1, o.2 ++ [.div (.index n) E])) := if_neg (by omega)
  rw [eg] at hF
  have x1 : eqx [67, 69] [66, 68, 70] s (us (ua w 68 (w.1 69) v) 69 (w.1 69 + 1)) := eqx_us (eqx_ua h1 (by decide)) (by decide)
  have hlB := (outB_len o.1 63).2.1 q400
  have eB : BY (us (ua w 68 (w.1 69) v) 69 (w.1 69 + 1)) o.1 := ⟨h2.1, fun k x hk => by
    show (if 66 = 68 ∧ (k : Int) = w.1 69 then v else w.2 66 k) = x
    rw [if_neg (by omega)]
    exact h2.2 k x hk⟩
  refine out_ok eB (fun u u1 u2 => ?_)
  have hu : OU s lo hi elo ehi (pB 63 (o.1, o.2 ++ [.div (.index n) E])) u := by
    refine ⟨x1.tr (u1.up (fun y q => by simp at q ⊢; omega) (fun y q => by simp at q ⊢; omega)), u2, ⟨?_, ?_⟩, fun k V hk => ?_⟩
    · rw [u1.1 69 (by decide)]
      show w.1 69 + 1 = ((o.2 ++ [Term.div (.index n) E]).length : Nat)
      simp; omega
    · show (o.2 ++ [Term.div (.index n) E]).length ≤ (outB o.1 63).length
      simp; omega
    · rw [u1.2 68 (by decide)]
      show VR s lo hi elo ehi V (if 68 = 68 ∧ (k : Int) = w.1 69 then v else w.2 68 k) ∧ isW V = true
      rcases app_at hk with hk | ⟨rfl, rfl⟩
      · have := (List.getElem?_eq_some_iff.mp hk).1
        rw [if_neg (by omega)]
        exact h4 k V hk
      · rw [if_pos ⟨rfl, h3.1.symm⟩]
        exact ⟨hv, rfl⟩
  rw [hu.c (f := 47) (v := v) (by decide), k2]
  have hl2 : o.1.length ≤ (pB 63 (o.1, o.2 ++ [Term.div (.index n) E])).1.length := (outB_len o.1 63).1
  exact oN (by omega) (by omega) hu (fun u' hu' e' => hF u' hu' (Nat.le_trans hl2 e'))
theorem outZ_ok {n : Nat} {F : SM → Prop} {q : Prop} (hx : n < 3000) (hd : 1 ≤ d) (h : OU s lo hi elo ehi o w) (hF : ∀ u, OU s lo hi elo ehi (outZ (s.2 9 n) n o) u → o.1.length ≤ (outZ (s.2 9 n) n o).1.length → F u) (v : Int) (hv : s.2 47 v = n) : (0 ≤ w.2 47 v ∧ w.2 47 v < 3004) ∧ ((w.2 9 (w.2 47 v) ≠ 11 → cm iv L h0 d 141 [vr 307, vi 41] w (qv fun s30 => F s30)) ∧ (w.2 9 (w.2 47 v) = 11 → cm iv L h0 d 141 [vr 307, vi 32] w (qv fun s31 => cm iv L h0 d 142 [vr 307, vi (s31.2 47 v)] s31 (qv fun s32 => cm iv L h0 d 141 [vr 307, vi 41] s32 (qv fun s33 => F s33))))) := by
  rw [h.c (f := 47) (v := v) (by decide), hv, h.c (f := 9) (v := n) (by decide)]
  unfold outZ at hF
  refine ⟨by omega, fun q => ?_, fun q => ?_⟩
  · rw [if_neg q] at hF
    exact oB h (fun u hu e => hF u hu e.1)
  · rw [if_pos q] at hF
    refine oB h (fun u1 h1 e1 => ?_)
    rw [h1.c (f := 47) (v := v) (by decide), hv]
    exact oN (by omega) hd h1 (fun u2 h2 e2 => oB h2 (fun u3 h3 e3 => hF u3 h3 (by omega)))
theorem wv_rem {n : Nat} {A B E : Term} (hb : 0 ≤ lo ∧ hi ≤ 2600) (hx : n < 3000) (hA : WV iv L h0 s lo hi elo ehi A) (hB : isV B = true → WV iv L h0 s lo hi elo ehi B) (hBn : B = .null ∨ isV B = true) : WV iv L h0 s lo hi elo ehi (.rem (.index n) (.elem A (.elem B E))) := fun v o w d F hv h d4 dl hF => by
  have k := hv
  obtain ⟨a, b, e, ⟨k0, k1, k2, k3, k4, -⟩, ka, kb, -⟩ := k
  have c1 := h.c (f := 46) (v := v) (by decide)
  refine B145 ⟨fun q => ⟨by omega, fun q => by omega, fun q => by omega, fun q => by omega, fun q => by omega, fun q => by omega, fun q => by omega, fun q => by omega, fun _ => ?_⟩, fun q => wv_full (V := .rem (.index n) (.elem A (.elem B E))) rfl h q hF⟩
  have g2 : o.1.length < 400 := (gd_lt (x := o) h (by assumption)).2
  have eg : outT (s.2 9) (.rem (.index n) (.elem A (.elem B E))) o = outZ (s.2 9 n) n (if isV B = true then outT (s.2 9) B (pB 32 (outT (s.2 9) A (pB 32 (pW (wrd (s.2 9 n)) (pB 40 o))))) else outT (s.2 9) A (pB 32 (pW (wrd (s.2 9 n)) (pB 40 o)))) := if_neg (by omega)
  rw [eg] at hF
  obtain ⟨d, rfl⟩ : ∃ k, d = k + 1 := ⟨d - 1, by omega⟩
  refine oB h (fun u1 h1 e1 => ?_)
  have e1' := e1.2 g2
  rw [h1.c (f := 47) (v := v) (by decide), k2, h1.c (f := 9) (v := n) (by decide)]
  refine ⟨by omega, wrd_ok (oW (wrd_in _) (by omega) h1 (fun u2 h2 e2 => oB h2 (fun u3 h3 e3 => ?_)))⟩
  rw [h3.c (f := 48) (v := v) (by decide), k3]
  refine hA a _ u3 d _ ka h3 (by omega) (by omega) (fun u4 h4 e4 => ?_)
  rw [h4.c (f := 49) (v := v) (by decide), k4]
  rcases kb with ⟨rfl, rfl⟩ | ⟨kn, kb⟩
  · rw [if_neg (by decide)] at hF
    refine ⟨fun _ => outZ_ok (q := True) hx (by omega) h4 (fun u hu eu => hF u hu (by omega)) v k2, fun q => absurd rfl q⟩
  · have hvB := hBn.resolve_left kn
    have kB := VR_kind hvB kb
    rw [if_pos hvB] at hF
    refine ⟨fun q => by omega, fun _ => oB h4 (fun u5 h5 e5 => ?_)⟩
    rw [h5.c (f := 49) (v := v) (by decide), k4]
    exact hB hvB b _ u5 d _ kb h5 (by omega) (by omega) (fun u6 h6 e6 => outZ_ok (q := True) hx (by omega) h6 (fun u hu eu => hF u hu (by omega)) v k2)
theorem wv_all (hb : 0 ≤ lo ∧ hi ≤ 2600) (h8 : s.1 8 ≤ 3000) : ∀ (n : Nat) (V : Term), SizeOf.sizeOf V < n → isV V = true → VB s V → WV iv L h0 s lo hi elo ehi V := by
  intro n
  induction n with
  | zero => intro V hn; omega
  | succ n ih =>
    intro V hn hv hV
    cases V with
    | int z => exact wv_int hb
    | arg z => exact wv_arg hb
    | index x => exact wv_index hb hV
    | sub x E =>
      cases x with
      | index x =>
        have := hV.1
        exact wv_sub hb (by omega)
      | _ => cases hv
    | add A B => exact wv_add hb (ih A (by simp at hn; omega) hV.1.1 hV.1.2) (ih B (by simp at hn; omega) hV.2.1 hV.2.2)
    | div x E =>
      cases x with
      | index x =>
        have := hV.1
        exact wv_div hb (by omega)
      | _ => cases hv
    | length A => exact wv_len hb (ih A (by simp at hn; omega) hV.1 hV.2)
    | rem x q =>
      cases x with
      | index x =>
        cases q with
        | elem A q =>
          cases q with
          | elem B E =>
            obtain ⟨⟨b1, a1, a2⟩, hc⟩ := hV
            refine wv_rem hb (by omega) (ih A (by simp at hn; omega) a1 a2) (fun hB => ?_) (hc.1.symm.imp id (fun q => q.1))
            rcases hc.1 with c | c
            · exact ih B (by simp at hn; omega) c.1 c.2
            · rw [c] at hB; cases hB
          | _ => cases hv
        | _ => cases hv
      | _ => cases hv
    | _ => cases hv
/-- write1: a value's bytes and holes -/
def wrt (s : SM) (V : Term) : List Int × List Term := outT (s.2 9) V ([], [])
theorem write1_ok {V : Term} {v : Int} {F : SM → Prop} (hb : 0 ≤ lo ∧ hi ≤ 2600) (h8 : s.1 8 ≤ 3000) (hV : isV V = true ∧ VB s V) (hv : VR s lo hi elo ehi V v) (hw : eqx [67, 69] [66, 68, 70] s w) (hd : 406 ≤ d) (hF : ∀ u, OU s lo hi elo ehi (wrt s V) u → F u) : cm iv L h0 d 146 [vr 307, vi v] w (qv F) := by
  obtain ⟨d, rfl⟩ : ∃ k, d = k + 2 := ⟨d - 2, by omega⟩
  refine B146 (wv_all hb h8 (SizeOf.sizeOf V + 1) V (Nat.lt_succ_self _) hV.1 hV.2 v ([], []) _ d _ hv ⟨eqx_us (eqx_us hw (by decide)) (by decide), ⟨⟨rfl, by decide⟩, fun k x hk => by simp at hk⟩, ⟨rfl, Nat.le_refl _⟩, fun k V hk => by simp at hk⟩ (by omega) (by show 404 ≤ d + 0; omega) (fun u hu _ => hF u hu))
end
end
section
/-! value(i), left(k). -/
def hasV (s : SM) : Prop := s.1 61 = 0 ∨ s.1 61 = 1
def atB (o : List Int) (k : Int) : Int := if k = -1 then o.length else if 0 ≤ k ∧ k < o.length then o.getD k.toNat 0 else -9
/-- the hole of a term -/
def hlN : Term → Int
  | .div (.index b) _ => b
  | _ => -9
section
variable {iv : List (Int × Int)} {L : Nat} {h0 : MH} {s : SM} {V : Term} {d : Nat}
theorem has_ok {F : Int → SM → Prop} (h1 : hasV s → F 1 s) (h0' : ¬ hasV s → F 0 s) : cm iv L h0 d 147 [vr 307] s (qi F) :=
  B147 ⟨fun q => h1 (Or.inl q), fun q => ⟨fun q2 => h0' (fun c => by unfold hasV at c; omega), fun q2 => h1 (Or.inr q2)⟩⟩
theorem atB_ok {o : List Int} {w : SM} {k : Int} {F : Int → SM → Prop} (h : BY w o) (hF : F (atB o k) w) : (k ≠ (-1) → (-2147483648 ≤ (w.1 67) - 1 ∧ (w.1 67) - 1 ≤ 2147483647) ∧ ((0 ≤ k ∧ k ≤ (w.1 67) - 1 → (0 ≤ k ∧ k < 400) ∧ F (w.2 66 k) w) ∧ (k < 0 ∨ (w.1 67) - 1 < k → F (-9) w))) ∧ (k = (-1) → F (w.1 67) w) := by
  obtain ⟨⟨a1, a2⟩, a3⟩ := h
  unfold atB at hF
  refine ⟨fun q => ⟨by omega, fun q2 => ⟨by omega, ?_⟩, fun q2 => ?_⟩, fun q => ?_⟩
  · rw [if_neg q, if_pos (by omega)] at hF
    have := a3 k.toNat (o.getD k.toNat 0) (by rw [List.getElem?_eq_getElem (by omega)]; rw [List.getD_eq_getElem?_getD, List.getElem?_eq_getElem (by omega)]; rfl)
    rw [show ((k.toNat : Nat) : Int) = k by omega] at this
    rw [this]
    exact hF
  · rw [if_neg q, if_neg (by omega)] at hF
    exact hF
  · rw [if_pos q] at hF
    rw [a1]
    exact hF
/-- what is to be known of the last value -/
def VK (s : SM) (V : Term) : Prop := hasV s → HB s ∧ VH s V ∧ VB s V
theorem value_ok {k : Int} {F : Int → SM → Prop} (h8 : s.1 8 ≤ 3000) (hV : VK s V) (hd : 407 ≤ d) (H0 : ¬ hasV s → F (-9) s) (H1 : ∀ w, hasV s → eqx [67, 69] [66, 68, 70] s w → F (atB (wrt s V).1 k) w) : cm iv L h0 d 148 [vr 307, vi k] s (qi F) := by
  obtain ⟨d, rfl⟩ : ∃ k, d = k + 1 := ⟨d - 1, by omega⟩
  refine B148 (has_ok (fun q => ⟨fun _ => ?_, fun q2 => by cases q2⟩) (fun q => ⟨fun q2 => absurd rfl q2, fun _ => H0 q⟩))
  obtain ⟨⟨b1, b2, b3⟩, v1, v2⟩ := hV q
  exact write1_ok (by omega) h8 ⟨v1.1, v2⟩ v1.2 eqx.rf (by omega) (fun u hu => atB_ok hu.2.1 (H1 u q hu.1))
def lefA (s : SM) (V : Term) (k : Int) : Int := if 0 ≤ k ∧ k < (wrt s V).2.length then hlN ((wrt s V).2.getD k.toNat .null) else -9
theorem getD_at {α : Type} {l : List α} {k : Int} {x : α} (h0 : 0 ≤ k) (h1 : k < l.length) : l[k.toNat]? = some (l.getD k.toNat x) := by
  rw [List.getD_eq_getElem?_getD, List.getElem?_eq_getElem (by omega)]
  rfl
theorem lef_at {w : SM} {lo hi elo ehi : Int} {o : List Int × List Term} {k : Int} (hb : 0 ≤ lo ∧ hi ≤ 2600) (hu : OU s lo hi elo ehi o w) (h0 : 0 ≤ k) (h1 : k < o.2.length) (hd : ∀ V, V ∈ o.2 → ∃ (b : Nat) (E : Term), V = .div (.index b) E) : (0 ≤ w.2 68 k ∧ w.2 68 k < 2600) ∧ w.2 47 (w.2 68 k) = hlN (o.2.getD k.toNat .null) ∧ ∃ (b : Nat) (E : Term), o.2.getD k.toNat .null = .div (.index b) E ∧ VR s lo hi elo ehi E (s.2 50 (w.2 68 k)) := by
  have e := getD_at (x := Term.null) h0 h1
  generalize o.2.getD k.toNat .null = V at e ⊢
  obtain ⟨b, E, rfl⟩ := hd V (List.mem_of_getElem? e)
  have := (hu.2.2.2 k.toNat _ e).1
  rw [show ((k.toNat : Nat) : Int) = k by omega] at this
  obtain ⟨e', ⟨k0, k1, k2, k3, k4, k5, -⟩, kE⟩ := this
  refine ⟨by omega, ?_, b, E, rfl, ?_⟩
  · rw [hu.c (by decide), k2]; rfl
  · rw [k5]; exact kE
end
end
section
/-! left(k), seen(k, x, i). -/
def HLE (s : SM) (X : Term) : Prop := ∃ (b : Nat) (E : Term), X = .div (.index b) E ∧ isE 26 E ∧ VB s E
theorem gd_h {P : Term → Prop} {o x : List Int × List Term} (h : ∀ X, X ∈ o.2 → P X) (hx : ∀ X, X ∈ x.2 → P X) : ∀ X, X ∈ (gd o x).2 → P X := by
  unfold gd
  split
  · exact h
  · exact hx
theorem outT_h {s : SM} {so : Int → Int} : ∀ (n : Nat) (V : Term), SizeOf.sizeOf V < n → isV V = true → VB s V → ∀ (o : List Int × List Term), (∀ X, X ∈ o.2 → HLE s X) → ∀ X, X ∈ (outT so V o).2 → HLE s X := by
  intro n
  induction n with
  | zero => intro V hn; omega
  | succ n ih =>
    intro V hn hv hV o ho
    cases V with
    | int z => exact gd_h (x := pN z.toInt o) ho ho
    | arg z => exact gd_h (x := pW (if z = 1 then 19 else 20) o) ho ho
    | index x => exact gd_h (x := pB (97 + x) (pB 33 o)) ho ho
    | sub x E =>
      cases x with
      | index x => exact gd_h (x := pN x (pB 100 o)) ho ho
      | _ => cases hv
    | add A B =>
      refine gd_h (x := pB 93 (outT so B (pB 32 (outT so A (pB 91 o))))) ho ?_
      exact ih B (by simp at hn; omega) hV.2.1 hV.2.2 _ (ih A (by simp at hn; omega) hV.1.1 hV.1.2 _ ho)
    | div x E =>
      cases x with
      | index x =>
        refine gd_h (x := pN x (pB 63 (o.1, o.2 ++ [.div (.index x) E]))) ho (fun X hX => ?_)
        rcases List.mem_append.mp hX with hX | hX
        · exact ho X hX
        · rw [List.mem_singleton.mp hX]
          exact ⟨x, E, rfl, hV.2⟩
      | _ => cases hv
    | length A =>
      refine gd_h (x := pB 125 (outT so A (pB 123 o))) ho ?_
      exact ih A (by simp at hn; omega) hV.1 hV.2 _ ho
    | rem x q =>
      cases x with
      | index x =>
        cases q with
        | elem A q =>
          cases q with
          | elem B E =>
            obtain ⟨⟨b1, a1, a2⟩, hB, -⟩ := hV
            have r1 : ∀ X, X ∈ (outT so A (pB 32 (pW (wrd (so x)) (pB 40 o)))).2 → HLE s X := ih A (by simp at hn; omega) a1 a2 _ ho
            have z : ∀ (o' : List Int × List Term), (∀ X, X ∈ o'.2 → HLE s X) → ∀ X, X ∈ (outZ (so x) x o').2 → HLE s X := fun o' h' => by
              unfold outZ
              split <;> exact h'
            refine gd_h (x := outZ (so x) x (if isV B = true then outT so B (pB 32 (outT so A (pB 32 (pW (wrd (so x)) (pB 40 o))))) else outT so A (pB 32 (pW (wrd (so x)) (pB 40 o))))) ho (z _ ?_)
            split
            · next hvB =>
              rcases hB with hB | hB
              · exact ih B (by simp at hn; omega) hB.1 hB.2 _ r1
              · rw [hB] at hvB; cases hvB
            · exact r1
          | _ => cases hv
        | _ => cases hv
      | _ => cases hv
    | _ => cases hv
/-- what is seen from a hole at a letter -/
def seeV (s : SM) (V : Term) (k x : Int) : Term := match (wrt s V).2.getD k.toNat .null with
  | .div _ E => lkE E x
  | _ => .null
section
variable {iv : List (Int × Int)} {L : Nat} {h0 : MH} {s : SM} {V : Term} {d : Nat}
theorem wrt_h (hV : isV V = true ∧ VB s V) : ∀ X, X ∈ (wrt s V).2 → HLE s X := outT_h (SizeOf.sizeOf V + 1) V (Nat.lt_succ_self _) hV.1 hV.2 _ (fun X hX => by cases hX)
theorem left_ok {k : Int} {F : Int → SM → Prop} (h8 : s.1 8 ≤ 3000) (hV : VK s V) (hd : 407 ≤ d) (H0 : ¬ hasV s → F (-9) s) (H1 : ∀ w, hasV s → eqx [67, 69] [66, 68, 70] s w → F (lefA s V k) w) : cm iv L h0 d 149 [vr 307, vi k] s (qi F) := by
  obtain ⟨d, rfl⟩ : ∃ k, d = k + 1 := ⟨d - 1, by omega⟩
  refine B149 (has_ok (fun q => ⟨fun _ => ?_, fun q2 => by cases q2⟩) (fun q => ⟨fun q2 => absurd rfl q2, fun _ => H0 q⟩))
  obtain ⟨⟨b1, b2, b3⟩, v1, v2⟩ := hV q
  refine write1_ok (by omega) h8 ⟨v1.1, v2⟩ v1.2 eqx.rf (by omega) (fun u hu => ?_)
  have H1 := H1 u q hu.1
  have l1 := hu.2.1.1
  have l2 := hu.2.2.1
  unfold lefA at H1
  refine ⟨by omega, fun q2 => ?_, fun q2 => ?_⟩
  · obtain ⟨c1, c2, -⟩ := lef_at (k := k) (by omega) hu q2.1 (by omega) (fun X hX => by obtain ⟨b, E, e, -⟩ := wrt_h ⟨v1.1, v2⟩ X hX; exact ⟨b, E, e⟩)
    rw [if_pos (by omega)] at H1
    refine ⟨by omega, c1, ?_⟩
    rw [c2]
    exact H1
  · rw [if_neg (by omega)] at H1
    exact H1
end
end
section
/-! seen(k, x, i). -/
theorem VB_lk {s : SM} : ∀ (E : Term) (x : Int), VB s E → lkE E x ≠ .null → isV (lkE E x) = true ∧ VB s (lkE E x) := by
  intro E
  induction E with
  | mul r y ihr _ =>
    intro x h hn
    have h : VB s r ∧ (y = .null ∨ (isV y = true ∧ VB s y)) := h
    unfold lkE at hn ⊢
    split
    · next q =>
      rw [if_pos q] at hn
      exact h.2.resolve_left hn
    · next q =>
      rw [if_neg q] at hn
      exact ihr x h.1 hn
  | _ => intro x h hn; exact absurd rfl hn
/-- the answer of seen -/
def senA (s : SM) (V : Term) (k x i : Int) : Int := if 0 ≤ k ∧ k < (wrt s V).2.length ∧ seeV s V k x ≠ .null then atB (wrt s (seeV s V k x)).1 i else -9
section
variable {iv : List (Int × Int)} {L : Nat} {h0 : MH} {s : SM} {V : Term} {d : Nat}
theorem seen_ok {k x i : Int} {F : Int → SM → Prop} (h8 : s.1 8 ≤ 3000) (hV : VK s V) (hd : 407 ≤ d) (H0 : ¬ (0 ≤ x ∧ x ≤ 25) → F (-1) s) (H1 : (0 ≤ x ∧ x ≤ 25) → ¬ hasV s → F (-9) s) (H2 : ∀ w, (0 ≤ x ∧ x ≤ 25) → hasV s → eqx [67, 69] [66, 68, 70] s w → F (senA s V k x i) w) : cm iv L h0 d 150 [vr 307, vi k, vi x, vi i] s (qi F) := by
  obtain ⟨d, rfl⟩ : ∃ k, d = k + 1 := ⟨d - 1, by omega⟩
  refine B150 ⟨fun hx => has_ok (fun q => ⟨fun _ => ?_, fun q2 => by cases q2⟩) (fun q => ⟨fun q2 => absurd rfl q2, fun _ => H1 hx q⟩), fun q => H0 (by omega)⟩
  obtain ⟨⟨b1, b2, b3⟩, v1, v2⟩ := hV q
  have hb : 0 ≤ 1300 * s.1 55 ∧ s.1 52 ≤ 2600 := by omega
  refine write1_ok hb h8 ⟨v1.1, v2⟩ v1.2 eqx.rf (by omega) (fun u hu => ?_)
  have H2 := fun w => H2 w hx q
  have l1 := hu.2.1.1
  have l2 := hu.2.2.1
  unfold senA at H2
  refine ⟨by omega, fun q2 => ?_, fun q2 => ?_⟩
  · have hk : k < (wrt s V).2.length := by omega
    have hh := wrt_h ⟨v1.1, v2⟩
    obtain ⟨c1, -, b, E, cE, c3⟩ := lef_at (k := k) hb hu q2.1 hk (fun X hX => by obtain ⟨b, E, e, -⟩ := hh X hX; exact ⟨b, E, e⟩)
    have eS : seeV s V k x = lkE E x := by unfold seeV; rw [cE]
    obtain ⟨b', E', ce, hE1, hE2⟩ := hh _ (List.mem_of_getElem? (getD_at (x := Term.null) q2.1 hk))
    rw [cE] at ce
    cases ce
    rw [eS] at H2
    rw [hu.c (f := 50) (by decide), hu.c (f := 53) (by decide)]
    generalize s.2 50 (u.2 68 k) = e at c3 ⊢
    obtain ⟨e1, e2⟩ := (VR_E 26 E e hE1 (Nat.le_refl _)).mp c3
    have eb : 0 ≤ e ∧ e < 1280 := by omega
    refine ⟨by omega, c1, by omega, by omega, by omega, fun q3 => ?_, fun q3 => ?_⟩
    · rcases e2 x hx.1 (by omega) with ⟨_, n2⟩ | ⟨n1, n2⟩
      · exact absurd n2 q3
      · obtain ⟨m1, m2⟩ := VB_lk E x hE2 n1
        refine write1_ok hb h8 ⟨m1, m2⟩ n2 hu.1 (by omega) (fun w hw => ?_)
        have H2 := H2 w hw.1
        rw [if_pos ⟨q2.1, hk, n1⟩] at H2
        exact atB_ok hw.2.1 H2
    · rcases e2 x hx.1 (by omega) with ⟨n1, _⟩ | ⟨n1, n2⟩
      · have H2 := H2 u hu.1
        rw [if_neg (fun c => c.2.2 n1)] at H2
        exact H2
      · have := (VR_kind (VB_lk E x hE2 n1).1 n2).2.1
        omega
  · have H2 := H2 u hu.1
    rw [if_neg (fun c => by omega)] at H2
    exact H2
end
end
section
/-! What was worked out outlives acts. -/
theorem VB_up {s w : SM} (h8 : s.1 8 ≤ w.1 8) : ∀ (n : Nat) (V : Term), SizeOf.sizeOf V < n → VB s V → VB w V := by
  intro n
  induction n with
  | zero => intro V h; omega
  | succ n ih =>
    intro V hn h
    cases V with
    | int z => trivial
    | arg z => exact h
    | index x => exact h
    | null => trivial
    | sub d E =>
      cases d with
      | index d => exact ⟨Int.lt_of_lt_of_le h.1 h8, h.2.1, ih E (by simp at hn; omega) h.2.2⟩
      | _ => exact h.elim
    | add A B => exact ⟨⟨h.1.1, ih A (by simp at hn; omega) h.1.2⟩, h.2.1, ih B (by simp at hn; omega) h.2.2⟩
    | div d E =>
      cases d with
      | index b => exact ⟨Int.lt_of_lt_of_le h.1 h8, h.2.1, ih E (by simp at hn; omega) h.2.2⟩
      | _ => exact h.elim
    | length A => exact ⟨h.1, ih A (by simp at hn; omega) h.2⟩
    | rem b q =>
      cases b with
      | index b =>
        cases q with
        | elem A q =>
          cases q with
          | elem B E =>
            obtain ⟨⟨b1, a1, a2⟩, hB, hE⟩ := h
            exact ⟨⟨Int.lt_of_lt_of_le b1 h8, a1, ih A (by simp at hn; omega) a2⟩, hB.imp (fun q => ⟨q.1, ih B (by simp at hn; omega) q.2⟩) id, hE.imp (fun q => ⟨q.1, ih E (by simp at hn; omega) q.2⟩) id⟩
          | _ => exact h.elim
        | _ => exact h.elim
      | _ => exact h.elim
    | mul r x =>
      have h : VB s r ∧ (x = .null ∨ (isV x = true ∧ VB s x)) := h
      exact ⟨ih r (by simp at hn; omega) h.1, h.2.imp id (fun q => ⟨q.1, ih x (by simp at hn; omega) q.2⟩)⟩
    | _ => exact h.elim
theorem outT_cg {s : SM} {so so' : Int → Int} (hs : ∀ b : Nat, (b : Int) < s.1 8 → so' b = so b) : ∀ (n : Nat) (V : Term), SizeOf.sizeOf V < n → isV V = true → VB s V → ∀ o, outT so' V o = outT so V o := by
  intro n
  induction n with
  | zero => intro V h; omega
  | succ n ih =>
    intro V hn hv h o
    cases V with
    | add A B =>
      show gd o (pB 93 (outT so' B (pB 32 (outT so' A (pB 91 o))))) = gd o (pB 93 (outT so B (pB 32 (outT so A (pB 91 o)))))
      rw [ih A (by simp at hn; omega) h.1.1 h.1.2, ih B (by simp at hn; omega) h.2.1 h.2.2]
    | length A =>
      show gd o (pB 125 (outT so' A (pB 123 o))) = gd o (pB 125 (outT so A (pB 123 o)))
      rw [ih A (by simp at hn; omega) h.1 h.2]
    | rem b q =>
      cases b with
      | index x =>
        cases q with
        | elem A q =>
          cases q with
          | elem B E =>
            obtain ⟨⟨b1, a1, a2⟩, hB, -⟩ := h
            show gd o (outZ (so' x) x (if isV B = true then outT so' B (pB 32 (outT so' A (pB 32 (pW (wrd (so' x)) (pB 40 o))))) else outT so' A (pB 32 (pW (wrd (so' x)) (pB 40 o))))) = gd o (outZ (so x) x (if isV B = true then outT so B (pB 32 (outT so A (pB 32 (pW (wrd (so x)) (pB 40 o))))) else outT so A (pB 32 (pW (wrd (so x)) (pB 40 o)))))
            rw [hs x b1, ih A (by simp at hn; omega) a1 a2]
            by_cases q : isV B = true
            · rcases hB with hB | hB
              · rw [if_pos q, if_pos q, ih B (by simp at hn; omega) hB.1 hB.2]
              · rw [hB] at q; cases q
            · rw [if_neg q, if_neg q]
          | _ => cases hv
        | _ => cases hv
      | _ => cases hv
    | int z => rfl
    | arg z => rfl
    | index x => rfl
    | sub x E =>
      cases x with
      | index x => rfl
      | _ => cases hv
    | div x E =>
      cases x with
      | index x => rfl
      | _ => cases hv
    | _ => cases hv
/-- the bytes of a value stay while births and sorts do -/
theorem wrt_cg {s w : SM} {V : Term} (hV : isV V = true ∧ VB s V) (hs : ∀ b : Nat, (b : Int) < s.1 8 → w.2 9 b = s.2 9 b) : wrt w V = wrt s V := outT_cg hs (SizeOf.sizeOf V + 1) V (Nat.lt_succ_self _) hV.1 hV.2 _
end
section
/-! Numbers and kinds are borne just where a sort bears them: kept by what writes and by what is born. -/
theorem NV_ag {s w : SM} (h : NV s) (h8 : w.1 8 = s.1 8) (hr : ∀ y, 0 ≤ y → y < s.1 8 → w.2 9 y = s.2 9 y ∧ w.2 10 y = s.2 10 y ∧ w.2 11 y = s.2 11 y) : NV w := fun x x0 x1 => by
  obtain ⟨a, b, c⟩ := hr x x0 (by omega)
  rw [a, b, c]
  exact h x x0 (by omega)
theorem NV_new {s w : SM} {so v k : Int} (h : NV s) (h8 : w.1 8 = s.1 8 + 1) (hn : w.2 9 (s.1 8) = so ∧ w.2 10 (s.1 8) = nvl so v ∧ w.2 11 (s.1 8) = kvl so k) (hr : ∀ y, 0 ≤ y → y < s.1 8 → w.2 9 y = s.2 9 y ∧ w.2 10 y = s.2 10 y ∧ w.2 11 y = s.2 11 y) : NV w := fun x x0 x1 => by
  by_cases e : x < s.1 8
  · obtain ⟨a, b, c⟩ := hr x x0 e
    rw [a, b, c]
    exact h x x0 e
  · obtain rfl : x = s.1 8 := by omega
    obtain ⟨a, b, c⟩ := hn
    rw [a, b, c]
    unfold nvl kvl
    refine ⟨?_, ?_⟩
    · split <;> rfl
    · split <;> rfl
theorem NV_write {s : SM} {v : Int} (h : NV s) (hc : 0 ≤ s.1 16 ∧ s.1 16 < s.1 8) (hg : wriOk s v) : NV (ua s 10 (s.1 16) v) := fun x x0 x1 => by
  have e9 : (ua s 10 (s.1 16) v).2 9 = s.2 9 := by
    funext y
    simp only [ua_2]
    exact if_neg (fun q => absurd q.1 (by decide))
  have e11 : (ua s 10 (s.1 16) v).2 11 = s.2 11 := by
    funext y
    simp only [ua_2]
    exact if_neg (fun q => absurd q.1 (by decide))
  have h0 := h x x0 x1
  rw [e9, e11]
  refine ⟨?_, h0.2⟩
  show nvl (s.2 9 x) (if 10 = 10 ∧ x = s.1 16 then v else s.2 10 x) = (if 10 = 10 ∧ x = s.1 16 then v else s.2 10 x)
  by_cases e : x = s.1 16
  · rw [if_pos ⟨rfl, e⟩, e]
    exact if_pos (by have := hg.1; omega)
  · rw [if_neg (fun q => e q.2)]
    exact h0.1
end
