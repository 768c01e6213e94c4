/-! Two methods of the desk once more: sums that wrap; what is seen so far at the loop's head. Printed by wip/gen2/gens.py. -/
section
variable {S : Type} {iv : List (Int × Int)} {L : Nat} {Rp : S → MH → Prop} {cs : S → Nat × Nat} {d M pc nx x y : Nat} {ls : LV} {st : List VV} {s : S} {Q : Option VV → S → Prop}
theorem w_idivw {a b : Int} (he : (mG L (fun _ => 0)).1 M pc = some (.idiv, nx, x, y)) (hb : b ≠ 0) (hw : wp iv L Rp cs d M nx ls (vi (w32 (a.tdiv b)) :: st) s Q) : wp iv L Rp cs d M pc ls (vi b :: vi a :: st) s Q :=
  wp_os he (fun h1 h2 => ⟨okS_ci (w32_in _) (okS_t (okS_t h2)), fun h lc _ => by
    show (if Int32.ofInt b = 0 then none else okk nx (lc) (.int (Int32.ofInt a / Int32.ofInt b) :: ems st) h) = some (Sum.inl (nx, lc, .int (Int32.ofInt (w32 (a.tdiv b))) :: ems st, h, 0, 0))
    have e : Int32.ofInt a / Int32.ofInt b = Int32.ofInt (a.tdiv b) := by
      apply Int32.toInt.inj
      rw [Int32.toInt_div, i_to (okS_h (okS_t h2)), i_to (okS_h h2), Int32.toInt_ofInt]
    rw [if_neg (i_nz (okS_h h2) hb), e, w32_of]; rfl⟩) hw
end
/-- HoleDesk$Worker.reckon(LHoleDesk$Node;II)LHoleDesk$Value; -/
theorem D240 {iv : List (Int × Int)} {L : Nat} {h0 : MH} {d : Nat} {s : SC} {a0 : Nat} {a1 : Nat} {a2 : Int} {a3 : Int} {F : Nat → SC → Prop} (H : (kl s a1 = 5) ∧ ((fI s a1 1 = 4 → (kl s a0 = 11) ∧ (kl s (fR s a0 0) = 6) ∧ ck iv L h0 d 196 [vr (fR s a0 0), vi 0, vi (w32 (a2 + a3))] s (qa fun r5 s4 => F r5 s4)) ∧ (fI s a1 1 = 5 → (kl s a0 = 11) ∧ (kl s (fR s a0 0) = 6) ∧ ck iv L h0 d 196 [vr (fR s a0 0), vi 0, vi (w32 (a2 * a3))] s (qa fun r9 s8 => F r9 s8)) ∧ (fI s a1 1 = 6 → ((a3 ≠ 0 → (kl s a0 = 11) ∧ (a3 ≠ 0) ∧ (kl s (fR s a0 0) = 6) ∧ ck iv L h0 d 196 [vr (fR s a0 0), vi 0, vi (w32 (a2.tdiv a3))] s (qa fun r14 s13 => F r14 s13)) ∧ (a3 = 0 → (kl s a0 = 11) ∧ ck iv L h0 d 232 [vr a0, vi 2, vi (fI s a1 0)] s (qa fun r17 s16 => F r17 s16)))) ∧ (fI s a1 1 < 4 ∨ 6 < fI s a1 1 → (kl s a0 = 11) ∧ ((a3 ≤ a2 → (kl s (fR s a0 0) = 6) ∧ ck iv L h0 d 196 [vr (fR s a0 0), vi 1, vi 0] s (qa fun r21 s20 => F r21 s20)) ∧ (a2 < a3 → (kl s (fR s a0 0) = 6) ∧ ck iv L h0 d 196 [vr (fR s a0 0), vi 1, vi 1] s (qa fun r24 s23 => F r24 s23)))))) : ck iv L h0 (d + 1) 240 [vr a0, vr a1, vi a2, vi a3] s (qa F) := by
  show wk iv L h0 (d + 1) 240 0 [lr a0, lr a1, li a2, li a3] [] s (qa F)
  refine w_aload_n rfl rfl ?_
  obtain ⟨g1, H⟩ := H
  refine c_get rfl rfl rfl g1 ?_
  have J32 : (fI s a1 1 = 4) → wk iv L h0 (d + 1) 240 32 [lr a0, lr a1, li a2, li a3] [] s (qa F) := fun h => by
    replace H := H.1 h
    refine w_aload_n rfl rfl ?_
    obtain ⟨g2, H⟩ := H
    refine c_getr rfl rfl rfl g2 ?_
    refine w_iconst (n := 0) rfl rfl ?_
    refine w_iload_n rfl rfl ?_
    refine w_iload_n rfl rfl ?_
    refine w_iaddw rfl ?_
    obtain ⟨g3, H⟩ := H
    refine c_virt (p := (fR s a0 0)) (as := [vi 0, vi (w32 (a2 + a3))]) (r := []) rfl rfl rfl rfl rfl rfl g3 (wc_mono H (Nat.le_refl _) ?_)
    rintro _ s4 ⟨r5, rfl, H⟩
    show wk iv L h0 (d + 1) 240 43 [lr a0, lr a1, li a2, li a3] [vr r5] s4 (qa F)
    exact w_aret rfl rfl ⟨_, rfl, H⟩
  have J44 : (fI s a1 1 = 5) → wk iv L h0 (d + 1) 240 44 [lr a0, lr a1, li a2, li a3] [] s (qa F) := fun h => by
    replace H := H.2.1 h
    refine w_aload_n rfl rfl ?_
    obtain ⟨g6, H⟩ := H
    refine c_getr rfl rfl rfl g6 ?_
    refine w_iconst (n := 0) rfl rfl ?_
    refine w_iload_n rfl rfl ?_
    refine w_iload_n rfl rfl ?_
    refine w_imulw rfl ?_
    obtain ⟨g7, H⟩ := H
    refine c_virt (p := (fR s a0 0)) (as := [vi 0, vi (w32 (a2 * a3))]) (r := []) rfl rfl rfl rfl rfl rfl g7 (wc_mono H (Nat.le_refl _) ?_)
    rintro _ s8 ⟨r9, rfl, H⟩
    show wk iv L h0 (d + 1) 240 55 [lr a0, lr a1, li a2, li a3] [vr r9] s8 (qa F)
    exact w_aret rfl rfl ⟨_, rfl, H⟩
  have J56 : (fI s a1 1 = 6) → wk iv L h0 (d + 1) 240 56 [lr a0, lr a1, li a2, li a3] [] s (qa F) := fun h => by
    replace H := H.2.2.1 h
    refine w_iload_n rfl rfl ?_
    refine w_if_ne rfl (fun h => ?_) (fun h => ?_)
    · replace H := H.1 h
      refine w_aload_n rfl rfl ?_
      obtain ⟨g10, H⟩ := H
      refine c_getr rfl rfl rfl g10 ?_
      refine w_iconst (n := 0) rfl rfl ?_
      refine w_iload_n rfl rfl ?_
      refine w_iload_n rfl rfl ?_
      obtain ⟨g11, H⟩ := H
      refine w_idivw rfl g11 ?_
      obtain ⟨g12, H⟩ := H
      refine c_virt (p := (fR s a0 0)) (as := [vi 0, vi (w32 (a2.tdiv a3))]) (r := []) rfl rfl rfl rfl rfl rfl g12 (wc_mono H (Nat.le_refl _) ?_)
      rintro _ s13 ⟨r14, rfl, H⟩
      show wk iv L h0 (d + 1) 240 83 [lr a0, lr a1, li a2, li a3] [vr r14] s13 (qa F)
      exact w_aret rfl rfl ⟨_, rfl, H⟩
    · replace H := H.2 h
      refine w_aload_n rfl rfl ?_
      refine w_iconst (n := 2) rfl rfl ?_
      refine w_aload_n rfl rfl ?_
      refine c_get rfl rfl rfl g1 ?_
      obtain ⟨g15, H⟩ := H
      refine c_virt (p := a0) (as := [vi 2, vi (fI s a1 0)]) (r := []) rfl rfl rfl rfl rfl rfl g15 (wc_mono H (Nat.le_refl _) ?_)
      rintro _ s16 ⟨r17, rfl, H⟩
      show wk iv L h0 (d + 1) 240 69 [lr a0, lr a1, li a2, li a3] [vr r17] s16 (qa F)
      refine w_goto rfl ?_
      exact w_aret rfl rfl ⟨_, rfl, H⟩
  have J84 : (fI s a1 1 < 4 ∨ 6 < fI s a1 1) → wk iv L h0 (d + 1) 240 84 [lr a0, lr a1, li a2, li a3] [] s (qa F) := fun h => by
    replace H := H.2.2.2 h
    refine w_aload_n rfl rfl ?_
    obtain ⟨g18, H⟩ := H
    refine c_getr rfl rfl rfl g18 ?_
    refine w_iconst (n := 1) rfl rfl ?_
    refine w_iload_n rfl rfl ?_
    refine w_iload_n rfl rfl ?_
    refine w_icmp_ge rfl (fun h => ?_) (fun h => ?_)
    · replace H := H.1 h
      refine w_iconst (n := 0) rfl rfl ?_
      obtain ⟨g19, H⟩ := H
      refine c_virt (p := (fR s a0 0)) (as := [vi 1, vi 0]) (r := []) rfl rfl rfl rfl rfl rfl g19 (wc_mono H (Nat.le_refl _) ?_)
      rintro _ s20 ⟨r21, rfl, H⟩
      show wk iv L h0 (d + 1) 240 102 [lr a0, lr a1, li a2, li a3] [vr r21] s20 (qa F)
      exact w_aret rfl rfl ⟨_, rfl, H⟩
    · replace H := H.2 h
      refine w_iconst (n := 1) rfl rfl ?_
      refine w_goto rfl ?_
      obtain ⟨g22, H⟩ := H
      refine c_virt (p := (fR s a0 0)) (as := [vi 1, vi 1]) (r := []) rfl rfl rfl rfl rfl rfl g22 (wc_mono H (Nat.le_refl _) ?_)
      rintro _ s23 ⟨r24, rfl, H⟩
      show wk iv L h0 (d + 1) 240 102 [lr a0, lr a1, li a2, li a3] [vr r24] s23 (qa F)
      exact w_aret rfl rfl ⟨_, rfl, H⟩
  refine w_tsw (td := 84) (ts := [32, 44, 56]) rfl rfl rfl rfl rfl rfl (fun h => J84 (by omega)) ?_
  exact swA_c (fun h => J32 (by omega)) (swA_c (fun h => J44 (by omega)) (swA_c (fun h => J56 (by omega)) (swA_n)))

/-- HoleDesk$Worker.goOnSights(LHoleDesk$Seen;I)LHoleDesk$Seen; -/
theorem D244 {iv : List (Int × Int)} {L : Nat} {h0 : MH} {d : Nat} {s : SC} {a0 : Nat} {a1 : Nat} {a2 : Int} {F : Nat → SC → Prop} (H : wk iv L h0 (d + 1) 244 5 [lr a0, lr a1, li a2, lr 2, li 0] [] s (qa F)) : ck iv L h0 (d + 1) 244 [vr a0, vr a1, vi a2] s (qa F) := by
  show wk iv L h0 (d + 1) 244 0 [lr a0, lr a1, li a2] [] s (qa F)
  refine w_null rfl ?_
  refine w_astore_n rfl rfl ?_
  refine w_iconst (n := 0) rfl rfl ?_
  refine w_istore rfl rfl ?_
  exact wp_ls (sl_s (sl_s (sl_s (sl_s (sl_s (sl_0)))))) H

/-- HoleDesk$Worker.goOnSights(LHoleDesk$Seen;I)LHoleDesk$Seen; at 5 -/
theorem D244_5 {iv : List (Int × Int)} {L : Nat} {h0 : MH} {d : Nat} {s : SC} {l0 : Nat} {l1 : Nat} {l2 : Int} {l3 : Nat} {l4 : Int} {F : Nat → SC → Prop} (H : ((26 ≤ l4 → F l3 s) ∧ (l4 < 26 → (kl s l0 = 11) ∧ ck iv L h0 d 229 [vr l0, vr l1, vi l4] s (qa fun r3 s2 => ((r3 = 2 → (-2147483648 ≤ l4 + 1 ∧ l4 + 1 ≤ 2147483647) ∧ wk iv L h0 (d + 1) 244 5 [lr l0, lr l1, li l2, lr l3, li (l4 + 1)] [] s2 (qa F)) ∧ (r3 ≠ 2 → (kl s2 l0 = 11) ∧ ck iv L h0 d 241 [vr l0, vr r3, vi l2] s2 (qa fun r7 s6 => ((r7 ≠ 2 → (kl s6 l0 = 11) ∧ (kl s6 (fR s6 l0 0) = 6) ∧ ck iv L h0 d 201 [vr (fR s6 l0 0), vi l4, vr r7, vr l3] s6 (qa fun r11 s10 => (-2147483648 ≤ l4 + 1 ∧ l4 + 1 ≤ 2147483647) ∧ wk iv L h0 (d + 1) 244 5 [lr l0, lr l1, li l2, lr r11, li (l4 + 1)] [] s10 (qa F))) ∧ (r7 = 2 → F 2 s6))))))))) : wk iv L h0 (d + 1) 244 5 [lr l0, lr l1, li l2, lr l3, li l4] [] s (qa F) := by
  refine w_iload rfl rfl ?_
  refine w_bipush (n := 26) rfl rfl rfl ?_
  refine w_icmp_ge rfl (fun h => ?_) (fun h => ?_)
  · replace H := H.1 h
    refine w_aload_n rfl rfl ?_
    exact w_aret rfl rfl ⟨_, rfl, H⟩
  · replace H := H.2 h
    refine w_aload_n rfl rfl ?_
    refine w_aload_n rfl rfl ?_
    refine w_iload rfl rfl ?_
    obtain ⟨g1, H⟩ := H
    refine c_virt (p := l0) (as := [vr l1, vi l4]) (r := []) rfl rfl rfl rfl rfl rfl g1 (wc_mono H (Nat.le_refl _) ?_)
    rintro _ s2 ⟨r3, rfl, H⟩
    show wk iv L h0 (d + 1) 244 19 [lr l0, lr l1, li l2, lr l3, li l4] [vr r3] s2 (qa F)
    refine w_astore rfl rfl ?_
    refine w_aload rfl rfl ?_
    refine c_null rfl (fun h => ?_) (fun h => ?_)
    · replace H := H.1 h
      obtain ⟨g4, H⟩ := H
      refine w_iinc rfl rfl rfl g4 ?_
      refine w_goto rfl ?_
      exact wp_ls (sl_s (sl_s (sl_s (sl_s (sl_s (sl_0)))))) H
    · replace H := H.2 h
      refine w_aload_n rfl rfl ?_
      refine w_aload rfl rfl ?_
      refine w_iload_n rfl rfl ?_
      obtain ⟨g5, H⟩ := H
      refine c_virt (p := l0) (as := [vr r3, vi l2]) (r := []) rfl rfl rfl rfl rfl rfl g5 (wc_mono H (Nat.le_refl _) ?_)
      rintro _ s6 ⟨r7, rfl, H⟩
      show wk iv L h0 (d + 1) 244 33 [lr l0, lr l1, li l2, lr l3, li l4, lr r3] [vr r7] s6 (qa F)
      refine w_astore rfl rfl ?_
      refine w_aload rfl rfl ?_
      refine c_nonnull rfl (fun h => ?_) (fun h => ?_)
      · replace H := H.1 h
        refine w_aload_n rfl rfl ?_
        obtain ⟨g8, H⟩ := H
        refine c_getr rfl rfl rfl g8 ?_
        refine w_iload rfl rfl ?_
        refine w_aload rfl rfl ?_
        refine w_aload_n rfl rfl ?_
        obtain ⟨g9, H⟩ := H
        refine c_virt (p := (fR s6 l0 0)) (as := [vi l4, vr r7, vr l3]) (r := []) rfl rfl rfl rfl rfl rfl g9 (wc_mono H (Nat.le_refl _) ?_)
        rintro _ s10 ⟨r11, rfl, H⟩
        show wk iv L h0 (d + 1) 244 54 [lr l0, lr l1, li l2, lr l3, li l4, lr r3, lr r7] [vr r11] s10 (qa F)
        refine w_astore_n rfl rfl ?_
        obtain ⟨g12, H⟩ := H
        refine w_iinc rfl rfl rfl g12 ?_
        refine w_goto rfl ?_
        exact wp_ls (sl_s (sl_s (sl_s (sl_s (sl_s (sl_0)))))) H
      · replace H := H.2 h
        refine w_null rfl ?_
        exact w_aret rfl rfl ⟨_, rfl, H⟩
