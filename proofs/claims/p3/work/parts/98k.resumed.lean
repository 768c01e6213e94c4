/-! resume(n). -/
section
variable {iv : List (Int × Int)} {L : Nat} {h0 : MH} {s : SM} {t : Term} {d : Nat}
theorem BGW_J {w σ : SM} {n hf : Int} (h : AFT s t) (hK : KIs s) (hw : JL s w t) (hσ : BGW w t n hf σ) : BGW s t n hf σ := by
  obtain ⟨w1, w2, -⟩ := hw
  obtain ⟨s1, s2, s3, s4, s5, s6⟩ := hσ
  have ej : jdg w t = jdg s t := jdg_x h.1 (h.1.x w2 (by decide) (by decide)) h.2.1 hK w2 (by decide) (by decide)
  rw [ej] at s4 s6
  exact ⟨(w1.up (fun y q => by simp at q ⊢; omega) (fun y q => by simp at q ⊢; omega)).tr s1, (w2.up (fun y q => by cases q) (fun y q => by cases q)).tr s2, s3, s4, s5, s6⟩
theorem WDN_J {w v : SM} {R : RS} {hf : Int} (h : AFT s t) (hK : KIs s) (hw : JL s w t) (hv : WDN w t R hf v) : WDN s t R hf v := by
  obtain ⟨w1, w2, -⟩ := hw
  obtain ⟨v1, v2, v3, v4, v5⟩ := hv
  have ej : jdg w t = jdg s t := jdg_x h.1 (h.1.x w2 (by decide) (by decide)) h.2.1 hK w2 (by decide) (by decide)
  have e8 : w.1 8 = s.1 8 := w1.1 8 (by decide)
  refine ⟨(w2.up (fun y q => by cases q) (fun y q => by cases q)).tr v1, v2, ⟨fun y y0 y1 => v3.1 y y0 (by omega), fun y y0 => (v3.2 y (by omega)).trans (by rw [w1.2 42 (by decide)])⟩, ?_, fun q => ⟨(v5 q).1, (v5 q).2.1, ?_⟩⟩
  · unfold wrL at v4 ⊢
    rw [ej] at v4
    exact v4
  · exact VG_e e8.symm (w1.2 9 (by decide)).symm (w1.2 10 (by decide)).symm (w1.2 12 (by decide)).symm (w1.2 13 (by decide)).symm (v5 q).2.2
theorem tgt_e {w : SM} (e : w.2 42 = s.2 42) : tgt w t = tgt s t := by
  funext b
  unfold tgt
  rw [e]
theorem res_core {V : Term} {n v0 : Int} {F : Int → SM → Prop} (h : AFT s t) (hK : KIs s) (hFB : FBK s) (hD : 300 ≤ d) (hn : 0 ≤ n ∧ n ≤ 300) (hB : HB s) (hV : isV V = true ∧ VR s (1300 * s.1 55) (s.1 52) (640 * s.1 55) (s.1 54) V v0) (hO : VO s t V) (hN : FN s t) (H : ∀ σ v, BGW s t n (1 - s.1 55) σ → WDN s t ((EV σ n 60).2 V 0) (1 - s.1 55) v → F (outE ((EV σ n 60).2 V 0)) v) : cm iv L h0 d 134 [vr 307, vi n, vi (1 - s.1 55)] s (qv fun s4 => cm iv L h0 d 132 [vr 307, vi v0] s4 (qi fun r6 s5 => cm iv L h0 d 135 [vr 307, vi r6] s5 (qi fun r8 s7 => F r8 s7))) := by
  obtain ⟨b1, b2, b3⟩ := hB
  have hh : 1 - s.1 55 = 0 ∨ 1 - s.1 55 = 1 := by omega
  refine beginWork_ok h.1 h.2.1 hK (by omega) hh (fun σ hσ => ?_)
  have hX := BGW_X h hFB hn hh hσ
  have hS := BGW_S hn hh hσ
  have H' := H σ
  have v1 := hσ.2.2.1
  have e1 := hσ.1
  have e42 : σ.2 42 = s.2 42 := e1.2 42 (by decide)
  have hFN : FN σ t := fun y hy hs => by
    rw [e42]
    exact hN y hy (by rw [← e1.2 9 (by decide)]; exact hs)
  have hOσ : VO σ t V := by
    show VG σ t (tgt σ t) V
    rw [tgt_e e42]
    exact VG_e (e1.1 8 (by decide)) (e1.2 9 (by decide)) (e1.2 10 (by decide)) (e1.2 12 (by decide)) (e1.2 13 (by decide)) hO
  have hVσ : VR σ (1300 * s.1 55) (s.1 52) (640 * s.1 55) (s.1 54) V v0 := VR_k hV.2 ⟨fun f v hf _ _ => by rw [e1.2 f (by simp; omega)], fun _ _ _ => by rw [e1.2 53 (by decide)]⟩ (Int.le_refl _) (Int.le_refl _)
  have hOL : OLDH σ (1300 * s.1 55) (s.1 52) (640 * s.1 55) (s.1 54) := by
    unfold OLDH
    rw [v1.1]
    omega
  have hRO := (EV_ok hX hFN 60).2 V 0 hV.1 hOσ hn.1
  have oca := OCA_all (iv := iv) (L := L) (h0 := h0) hFN hOL 60 (Nat.le_refl _) _ _ v0 0 V σ hX hV.1 hOσ hVσ (hS.up (by decide))
  refine wci_mono oca (by omega) (fun r u hu => ?_)
  obtain ⟨⟨u1, u2, u3, u4, u5⟩, -⟩ := hu
  generalize (EV σ n 60).2 V 0 = R at *
  have r1 := hRO.1
  refine fin_ok h hn hh hσ u1 ?_ ⟨u4.1, u4.2.2.1, u4.2.2.2⟩ ⟨hRO.2.1, fun q => (hRO.2.2 q).2⟩ u5 (fun v hv => H' v hσ hv)
  omega
/-- what is to be known of the last working -/
def RSM (s : SM) (t : Term) (V : Term) : Prop := (s.1 61 = 0 ∨ s.1 61 = 1) → s.1 35 = 0 → HB s ∧ VH s V ∧ VO s t V ∧ FN s t
theorem resume_ok {V : Term} {W : List (Int × Int)} {n : Int} {F : Int → SM → Prop} (h : AFT s t) (hK : KIs s) (hFB : FBK s) (hD : 301 ≤ d) (hW : WLs s W) (hV : RSM s t V) (H1 : ¬ (0 ≤ n ∧ n ≤ 300) → F (-1) s) (H2 : (0 ≤ n ∧ n ≤ 300) → ¬ ((s.1 61 = 0 ∨ s.1 61 = 1) ∧ s.1 35 = 0) → F (-4) s) (H3 : ∀ w, (0 ≤ n ∧ n ≤ 300) → (s.1 61 = 0 ∨ s.1 61 = 1) ∧ s.1 35 = 0 → arS s t W = false → JL s w t → F (-4) w) (H4 : ∀ σ v, (0 ≤ n ∧ n ≤ 300) → (s.1 61 = 0 ∨ s.1 61 = 1) ∧ s.1 35 = 0 → arS s t W = true → BGW s t n (1 - s.1 55) σ → WDN s t ((EV σ n 60).2 V 0) (1 - s.1 55) v → F (outE ((EV σ n 60).2 V 0)) v) : cm iv L h0 d 138 [vr 307, vi n] s (qi F) := by
  obtain ⟨d, rfl⟩ : ∃ k, d = k + 1 := ⟨d - 1, by omega⟩
  have main : (0 ≤ n ∧ n ≤ 300) → (s.1 61 = 0 ∨ s.1 61 = 1) ∧ s.1 35 = 0 → cm iv L h0 d 137 [vr 307] s (qi fun r2 s1 => ((r2 ≠ 0 → (-2147483648 ≤ 1 - (s1.1 55) ∧ 1 - (s1.1 55) ≤ 2147483647) ∧ cm iv L h0 d 134 [vr 307, vi n, vi (1 - (s1.1 55))] s1 (qv fun s4 => cm iv L h0 d 132 [vr 307, vi (s1.1 62)] s4 (qi fun r6 s5 => cm iv L h0 d 135 [vr 307, vi r6] s5 (qi fun r8 s7 => F r8 s7)))) ∧ (r2 = 0 → F (-4) s1))) := by
    intro hn hq
    obtain ⟨hB, hVH, hO, hN⟩ := hV hq.1 hq.2
    refine same_ok h.1 h.2.1 hK hW (by omega) (fun w hw => ?_)
    have w1 := hw.1
    have w2 := hw.2.1
    have e55 : w.1 55 = s.1 55 := w1.1 55 (by decide)
    have e52 : w.1 52 = s.1 52 := w1.1 52 (by decide)
    have e54 : w.1 54 = s.1 54 := w1.1 54 (by decide)
    have e62 : w.1 62 = s.1 62 := w1.1 62 (by decide)
    have e42 : w.2 42 = s.2 42 := w1.2 42 (by decide)
    have e8 : w.1 8 = s.1 8 := w1.1 8 (by decide)
    have h' : AFT w t := h.x w2 (by decide) (by decide)
    have hB' : HB w := by unfold HB; rw [e55, e52, e54]; exact hB
    have hFB' : FBK w := by unfold FBK; rw [e8, e42]; exact hFB
    have hVw : isV V = true ∧ VR w (1300 * w.1 55) (w.1 52) (640 * w.1 55) (w.1 54) V (w.1 62) := by
      rw [e55, e52, e54, e62]
      exact ⟨hVH.1, VR_k hVH.2 ⟨fun f v hf _ _ => by rw [w1.2 f (by simp; omega)], fun _ _ _ => by rw [w1.2 53 (by decide)]⟩ (Int.le_refl _) (Int.le_refl _)⟩
    have hO' : VO w t V := by
      show VG w t (tgt w t) V
      rw [tgt_e e42]
      exact VG_e e8 (w1.2 9 (by decide)) (w1.2 10 (by decide)) (w1.2 12 (by decide)) (w1.2 13 (by decide)) hO
    have hN' : FN w t := fun y hy hs => by
      rw [e42]
      exact hN y hy (by rw [← w1.2 9 (by decide)]; exact hs)
    have hB1 := hB.1
    refine ⟨fun q => ⟨by omega, ?_⟩, fun q => H3 w hn hq (by
      cases e : arS s t W with
      | true => rw [e] at q; simp at q
      | false => rfl) hw⟩
    have ea : arS s t W = true := by
      cases e : arS s t W with
      | false => rw [e] at q; simp at q
      | true => rfl
    refine res_core h' (KI_x hK w2 (by decide) (by decide)) hFB' (by omega) hn hB' hVw hO' hN' (fun σ v hσ hv => ?_)
    rw [e55] at hσ hv
    exact H4 σ v hn hq ea (BGW_J h hK hw hσ) (WDN_J h hK hw hv)
  refine B138 ⟨fun hn => ⟨fun q => ⟨fun p => H2 hn (fun c => p c.2), fun p => main hn ⟨Or.inl q, p⟩⟩, fun q => ⟨fun p => H2 hn (fun c => by omega), fun p => ⟨fun p2 => H2 hn (fun c => p2 c.2), fun p2 => main hn ⟨Or.inr p, p2⟩⟩⟩⟩, fun hn => H1 (by omega)⟩
end
