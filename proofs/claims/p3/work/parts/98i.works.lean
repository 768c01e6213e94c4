/-! work(n), resume(n). -/
def FBK (s : SM) : Prop := ∀ b, 0 ≤ b → b < s.1 8 → s.2 42 b = 0 ∨ (b < s.2 42 b - 1 ∧ s.2 42 b - 1 < s.1 8)
/-- in which half it is, how far that is used -/
def HB (s : SM) : Prop := (s.1 55 = 0 ∨ s.1 55 = 1) ∧ s.1 52 ≤ 1300 * s.1 55 + 1300 ∧ s.1 54 ≤ 640 * s.1 55 + 640
/-- the result's row -/
def VH (s : SM) (V : Term) : Prop := isV V = true ∧ VR s (1300 * s.1 55) (s.1 52) (640 * s.1 55) (s.1 54) V (s.1 62)
/-- nodes and their reasons when it was last worked -/
def WLs (s : SM) (W : List (Int × Int)) : Prop := s.1 63 = W.length ∧ W.length ≤ 60 ∧ ∀ (k : Nat) (a : Int × Int), W[k]? = some a → s.2 64 k = a.1 ∧ s.2 65 k = a.2
def outE (R : RS) : Int := if R.2.1 = 0 then (if hsL R.2.2.2 = true then 1 else 0) else R.2.1
def wrL (s : SM) (t : Term) : List (Int × Int) := (fl t).map (fun x => (x, (jdg s t).2.2 x))
def WDN (s : SM) (t : Term) (R : RS) (hf : Int) (w : SM) : Prop := SX [35, 52, 54, 55, 56, 57, 58, 59, 60, 61, 62, 63] [42, 46, 47, 48, 49, 50, 51, 53, 64, 65] s w ∧ (w.1 35 = 0 ∧ w.1 55 = hf ∧ w.1 56 = R.1 ∧ w.1 60 = R.2.2.1 ∧ w.1 61 = outE R) ∧ ((∀ y, 0 ≤ y → y < s.1 8 → w.2 42 y = 0) ∧ ∀ y, s.1 8 ≤ y → w.2 42 y = s.2 42 y) ∧ WLs w (wrL s t) ∧ (R.2.1 = 0 → HB w ∧ VH w R.2.2.2 ∧ VN s t R.2.2.2)
theorem VG_cg {s w : SM} {t t' : Term} {g g' : Int → Int} (h8 : s.1 8 ≤ w.1 8) (hm : ∀ x, x ∈ fl t → x ∈ fl t' ∧ w.2 9 x = s.2 9 x ∧ ∀ E, cov s x E → cov w x E) (hg : ∀ b, g b ∈ fl t → 0 ≤ b → b < s.1 8 → g' b ∈ fl t' ∧ (∀ E, cov s (g b) E → cov w (g' b) E) ∧ (g' b = b → g b = b ∧ w.2 9 b = s.2 9 b)) : ∀ (n : Nat) (V : Term), SizeOf.sizeOf V < n → VG s t g V → VG w t' g' V := by
  intro n
  induction n with
  | zero => intro V h; omega
  | succ n ih =>
    intro V hn h
    cases V with
    | sub d E =>
      cases d with
      | index d =>
        obtain ⟨⟨h1, h2⟩, h3, h4, h5⟩ := h
        obtain ⟨m1, m2, m3⟩ := hm _ h1
        exact ⟨⟨m1, m2.trans h2⟩, m3 E h3, h4, ih E (by simp at hn; omega) h5⟩
      | _ => exact h.elim
    | add A B => exact ⟨⟨h.1.1, ih A (by simp at hn; omega) h.1.2⟩, h.2.1, ih B (by simp at hn; omega) h.2.2⟩
    | div d E =>
      cases d with
      | index b =>
        obtain ⟨⟨h1, h2, h3⟩, h4, h5, h6⟩ := h
        obtain ⟨m1, m2, m3⟩ := hg b h2 (by omega) h1
        exact ⟨⟨by omega, m1, fun q => by obtain ⟨q1, q2⟩ := m3 q; rw [q2]; exact h3 q1⟩, m2 E h4, h5, ih E (by simp at hn; omega) h6⟩
      | _ => exact h.elim
    | length A => exact ⟨h.1, ih A (by simp at hn; omega) h.2⟩
    | rem b q =>
      cases b with
      | index b =>
        cases q with
        | elem A q =>
          cases q with
          | elem B E =>
            obtain ⟨⟨b1, a1, a2⟩, hc⟩ := h
            obtain ⟨m1, m2, m3⟩ := hm _ b1
            refine ⟨⟨m1, a1, ih A (by simp at hn; omega) a2⟩, ?_⟩
            rw [m2]
            rcases hc with ⟨c1, c2, c3, c4⟩ | ⟨c1, c2, c3, c4, c5⟩ | c
            · exact Or.inl ⟨c1, c2, ih B (by simp at hn; omega) c3, c4⟩
            · exact Or.inr (Or.inl ⟨c1, c2, c3, m3 E c4, ih E (by simp at hn; omega) c5⟩)
            · exact Or.inr (Or.inr c)
          | _ => exact h.elim
        | _ => exact h.elim
      | _ => exact h.elim
    | mul r x =>
      have h : VG s t g r ∧ (x = .null ∨ (isV x = true ∧ VG s t g x)) := h
      exact ⟨ih r (by simp at hn; omega) h.1, h.2.imp id (fun q => ⟨q.1, ih x (by simp at hn; omega) q.2⟩)⟩
    | int z => trivial
    | arg z => exact h
    | index z => exact h
    | null => trivial
    | _ => exact h.elim
theorem VG_e {s w : SM} {t : Term} {g : Int → Int} (h8 : w.1 8 = s.1 8) (h9 : w.2 9 = s.2 9) (h10 : w.2 10 = s.2 10) (h12 : w.2 12 = s.2 12) (h13 : w.2 13 = s.2 13) {V : Term} (h : VG s t g V) : VG w t g V := by
  have hc : ∀ x E, cov s x E → cov w x E := fun x E hE y y0 y1 hy => hE y y0 y1 (by
    show bnd (s.2 9) (s.2 10) (s.2 12) (s.2 13) 70 x y ≠ -9
    rw [← h9, ← h10, ← h12, ← h13]
    exact hy)
  exact VG_cg (by omega) (fun x hx => ⟨hx, by rw [h9], hc x⟩) (fun b hb _ _ => ⟨hb, hc _, fun q => ⟨q, by rw [h9]⟩⟩) (SizeOf.sizeOf V + 1) V (Nat.lt_succ_self _) h
theorem nulE_VG {s : SM} {t : Term} {g : Int → Int} : ∀ n : Nat, VG s t g (nulE n) := by
  intro n
  induction n with
  | zero => trivial
  | succ n ih => exact ⟨ih, Or.inl rfl⟩
section
variable {iv : List (Int × Int)} {L : Nat} {h0 : MH} {s : SM} {t : Term} {d : Nat}
/-- where working begins: its ground -/
theorem BGW_X {σ : SM} {n hf : Int} (h : AFT s t) (hFB : FBK s) (hn : 0 ≤ n ∧ n ≤ 300) (hh : hf = 0 ∨ hf = 1) (hσ : BGW s t n hf σ) : WCX σ t n (1300 * hf) (640 * hf) := by
  obtain ⟨e1, x1, v1, v2, -⟩ := hσ
  have h' := h.x x1 (by decide) (by decide)
  refine ⟨⟨h'.1, h'.2.1, fun y hy h3 hr => ?_⟩, v1.2.2.2.2.1, hn, ⟨by rw [v1.1]; exact hh, by rw [v1.1]; omega, by rw [v1.1]; omega⟩, fun b b0 b1 => ?_⟩
  · intro hb
    refine hr ?_
    rw [v2 y hy]
    have e9 : σ.2 9 = s.2 9 := e1.2 9 (by decide)
    have e10 : σ.2 10 = s.2 10 := e1.2 10 (by decide)
    refine jd_nm (dpt t) t (Nat.le_refl _) h.1.1 h.1.2.2.1 y hy (by rw [← e9]; exact h3) ?_ none J0
    show bnd (s.2 9) (s.2 10) (s.2 12) (s.2 13) 70 y (s.2 10 y) = -9
    rw [← e9, ← e10, ← e1.2 12 (by decide), ← e1.2 13 (by decide)]
    exact hb
  · rw [e1.2 42 (by decide)]
    rw [e1.1 8 (by decide)] at b1 ⊢
    exact hFB b b0 b1
theorem BGW_S {σ : SM} {n hf : Int} (hn : 0 ≤ n ∧ n ≤ 300) (hh : hf = 0 ∨ hf = 1) (hσ : BGW s t n hf σ) : WS σ n (1300 * hf) (640 * hf) 60 0 8 σ := by
  obtain ⟨e1, x1, v1, v2, -⟩ := hσ
  refine ⟨eqx.rf, ⟨v1.2.2.2.1, ?_, v1.2.2.2.2.2.2.1, v1.2.2.2.2.2.2.2⟩, ⟨Int.le_refl _, hn.1⟩, ⟨?_, ?_⟩, ?_, ?_⟩
  · rw [v1.2.2.2.2.2.1]; rfl
  · rw [v1.2.1]; exact Int.le_refl _
  · rw [v1.2.1, v1.1]; omega
  · rw [v1.2.2.1]; exact Int.le_refl _
  · rw [v1.2.2.1, v1.1]; omega
/-- the end of work() and resume() -/
theorem fin_ok {σ w : SM} {n hf r : Int} {R : RS} {F : Int → SM → Prop} (h : AFT s t) (hn : 0 ≤ n ∧ n ≤ 300) (hh : hf = 0 ∨ hf = 1) (hσ : BGW s t n hf σ) (hw : FRM σ w) (hc : (1300 * hf ≤ w.1 52 ∧ w.1 52 ≤ 1300 * hf + 610) ∧ 640 * hf ≤ w.1 54 ∧ w.1 54 ≤ 640 * hf + 620) (hx : w.1 56 = R.1 ∧ w.1 59 = R.2.1 ∧ w.1 60 = R.2.2.1) (hR : (R.2.1 = 0 ∨ (2 ≤ R.2.1 ∧ R.2.1 ≤ 4)) ∧ (R.2.1 = 0 → isV R.2.2.2 = true ∧ VN σ t R.2.2.2)) (hV : R.2.1 = 0 → VR w (1300 * hf) (w.1 52) (640 * hf) (w.1 54) R.2.2.2 r) (hF : ∀ v, WDN s t R hf v → F (outE R) v) : cm iv L h0 d 135 [vr 307, vi r] w (qi F) := by
  obtain ⟨e1, x1, v1, v2, v3, v4⟩ := hσ
  have h8 : w.1 8 = s.1 8 := (hw.1.1 8 (by decide)).trans (e1.1 8 (by decide))
  have w55 : w.1 55 = hf := (hw.1.1 55 (by decide)).trans v1.1
  have hB := h.1.2.2.2.2.1
  have kd : R.2.1 = 0 → (0 ≤ r ∧ r < 2600) ∧ w.2 51 r = if hsL R.2.2.2 = true then 1 else 0 := fun q => by
    obtain ⟨k1, k2, k3⟩ := VR_kind (hR.2 q).1 (hV q)
    exact ⟨by omega, k3⟩
  have eo : enwO w r = outE R := by
    unfold enwO outE
    rw [hx.2.1]
    by_cases q : R.2.1 = 0
    · rw [if_neg (by omega), if_pos q, (kd q).2]
      cases hsL R.2.2.2 <;> simp
    · have := hR.1.resolve_left q
      rw [if_pos (by omega), if_neg q]
  refine endWork_ok (by omega) (fun q => (kd (by rw [hx.2.1] at q; have := hR.1; omega)).1) ?_
  rw [eo]
  have r42 : ∀ f, f ≠ 42 → (enwU w r (outE R)).2 f = w.2 f := fun f hf => by
    funext y
    exact if_neg (fun q => hf q.1)
  have n1 : ∀ y, y ≠ 62 → y ≠ 35 → y ≠ 61 → (enwU w r (outE R)).1 y = w.1 y := fun y a b c => by
    show (if y = 62 then r else if y = 35 then 0 else if y = 61 then outE R else w.1 y) = w.1 y
    rw [if_neg a, if_neg b, if_neg c]
  refine hF _ ⟨⟨fun y a1 a2 => ?_, fun f a1 a2 i a3 => ?_⟩, ⟨rfl, ?_, ?_, ?_, rfl⟩, ⟨fun y y0 y1 => ?_, fun y y0 => ?_⟩, ⟨?_, ?_, fun k a hk => ?_⟩, fun q => ⟨⟨?_, ?_, ?_⟩, ⟨(hR.2 q).1, ?_⟩, ?_⟩⟩
  · simp at a2
    rw [n1 y (by omega) (by omega) (by omega), hw.1.1 y (by simp; omega)]
    exact x1.1 y a1 (by simp; omega)
  · simp at a2
    rw [r42 f (by omega), hw.1.2 f (by simp; omega)]
    exact x1.2 f a1 (by simp; omega) i a3
  · rw [n1 55 (by decide) (by decide) (by decide)]; exact w55
  · rw [n1 56 (by decide) (by decide) (by decide)]; exact hx.1
  · rw [n1 60 (by decide) (by decide) (by decide)]; exact hx.2.2
  · exact if_pos ⟨rfl, y0, by rw [h8]; exact y1⟩
  · show (if (42 : Nat) = 42 ∧ 0 ≤ y ∧ y < w.1 8 then 0 else w.2 42 y) = s.2 42 y
    rw [if_neg (by omega), hw.1.2 42 (by decide), e1.2 42 (by decide)]
  · rw [n1 63 (by decide) (by decide) (by decide), hw.1.1 63 (by decide), v3]
    unfold wrL; simp
  · unfold wrL
    rw [List.length_map]
    exact h.1.2.2.2.1
  · rw [r42 64 (by decide), r42 65 (by decide), hw.1.2 64 (by decide), hw.1.2 65 (by decide)]
    unfold wrL at hk
    rw [List.getElem?_map] at hk
    cases hx2 : (fl t)[k]? with
    | none => rw [hx2] at hk; cases hk
    | some x =>
      rw [hx2] at hk
      cases hk
      exact v4 k x hx2
  · rw [n1 55 (by decide) (by decide) (by decide), w55]; exact hh
  · rw [n1 55 (by decide) (by decide) (by decide), n1 52 (by decide) (by decide) (by decide), w55]; omega
  · rw [n1 55 (by decide) (by decide) (by decide), n1 54 (by decide) (by decide) (by decide), w55]; omega
  · rw [n1 55 (by decide) (by decide) (by decide), n1 52 (by decide) (by decide) (by decide), n1 54 (by decide) (by decide) (by decide), w55]
    exact VR_k (hV q) ⟨fun f _ hf _ _ => by rw [r42 f (by omega)], fun _ _ _ => by rw [r42 53 (by decide)]⟩ (Int.le_refl _) (Int.le_refl _)
  · exact VG_e (e1.1 8 (by decide)).symm (e1.2 9 (by decide)).symm (e1.2 10 (by decide)).symm (e1.2 12 (by decide)).symm (e1.2 13 (by decide)).symm (hR.2 q).2
theorem work_ok {n : Int} {F : Int → SM → Prop} (h : AFT s t) (hK : KIs s) (hFB : FBK s) (hD : 300 ≤ d) (H1 : ¬ (0 ≤ n ∧ n ≤ 300) → F (-1) s) (H2 : ∀ σ v, 0 ≤ n ∧ n ≤ 300 → BGW s t n 0 σ → WDN s t ((EV σ n 60).1 (s.1 15) (nulE 26) 0) 0 v → F (outE ((EV σ n 60).1 (s.1 15) (nulE 26) 0)) v) : cm iv L h0 d 136 [vr 307, vi n] s (qi F) := by
  obtain ⟨d, rfl⟩ : ∃ k, d = k + 1 := ⟨d - 1, by omega⟩
  refine B136 ⟨fun hn => beginWork_ok h.1 h.2.1 hK (by omega) (Or.inl rfl) (fun σ hσ => ?_), fun hn => H1 (by omega)⟩
  have hX := BGW_X h hFB hn (Or.inl rfl) hσ
  have hS := BGW_S hn (Or.inl rfl) hσ
  have v1 := hσ.2.2.1
  have H3 := H2 σ
  refine newEnv_ok (by rw [v1.2.2.1]; decide) (Or.inl rfl) (fun w hw => ?_)
  obtain ⟨w1, w2, w3, w4⟩ := hw
  rw [v1.2.2.1] at w2 w3 w4 ⊢
  have w52 : w.1 52 = 0 := (w1.1 52 (by decide)).trans v1.2.1
  have w15 : w.1 15 = s.1 15 := (w1.1 15 (by decide)).trans (hσ.1.1 15 (by decide))
  have fr : FRM σ w := ⟨w1.up (by decide) (by decide), fun f v hf _ => by rw [w1.2 f (by simp; omega)], fun j hj => w3 j (by rw [v1.2.2.1, w2] at hj; omega)⟩
  rw [w15]
  have hSw : WS σ n 0 0 60 0 0 w := ⟨hS.1.tr fr.1, ⟨by rw [w1.1 56 (by decide)]; exact v1.2.2.2.1, by rw [w1.1 58 (by decide)]; exact hS.2.1.2.1, by rw [w1.1 59 (by decide)]; exact v1.2.2.2.2.2.2.1, by rw [w1.1 60 (by decide)]; exact v1.2.2.2.2.2.2.2⟩, hS.2.2.1, ⟨by omega, by rw [v1.1]; omega⟩, by omega, by rw [v1.1]; omega⟩
  have top := top_mem h.1
  have bT : ∀ x, bds σ (s.1 15) x = -9 := fun x => by
    have e12 : σ.2 12 = s.2 12 := hσ.1.2 12 (by decide)
    show bnd (σ.2 9) (σ.2 10) (σ.2 12) (σ.2 13) 70 (s.1 15) x = -9
    unfold bnd
    rw [e12, if_pos (by rw [← h.1.2.2.2.2.2.1]; exact h.1.2.2.2.2.2.2.1)]
  have cv : cov σ (s.1 15) (nulE 26) := fun x _ _ hx => absurd (bT x) hx
  have hRO := EV_okw hX 60 (s.1 15) (nulE 26) 0 top (nulE_is 26) (nulE_VG 26) cv hn.1
  have wco := WCO_all (iv := iv) (L := L) (h0 := h0) hX 60 (Nat.le_refl _) (s.1 15) 0 0 (nulE 26) w top (nulE_is 26) (nulE_VG 26) cv ((VR_E 26 _ 0 (nulE_is 26) (Nat.le_refl _)).mpr ⟨by omega, fun x x0 x1 => Or.inl ⟨nulE_lk 26 x, by have := w4 x x0 x1; rw [if_pos rfl] at this; rw [show 26 * (0 : Int) + x = 26 * 0 + x from rfl]; exact this⟩⟩) hSw
  refine wci_mono wco (by omega) (fun r u hu => ?_)
  have r1 := hRO.1
  refine fin_ok h hn (Or.inl rfl) hσ (fr.tr hu.1 ⟨by rw [v1.2.1, w52]; exact Int.le_refl _, hu.2.1.1⟩ ⟨by rw [v1.2.2.1]; omega, hu.2.2.1.1⟩) ?_ ⟨hu.2.2.2.1.1, hu.2.2.2.1.2.2.1, hu.2.2.2.1.2.2.2⟩ ⟨hRO.2.1, fun q => (hRO.2.2 q).2⟩ (fun q => hu.2.2.2.2 q) (fun v hv => H3 v hn hσ hv)
  have a1 := hu.2.1
  have a2 := hu.2.2.1
  omega
end
