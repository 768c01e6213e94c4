/-! What the methods of the desk come to. Printed by wip/gen2/gens.py. -/
/-- HoleDesk.shelve(I)I -/
theorem C19 {iv : List (Int × Int)} {L : Nat} {h0 : MH} {d : Nat} {s : SC} {a0 : Nat} {a1 : Int} {F : Int → SC → Prop} (H : ck iv L h0 d 41 [vi a1] s (qi fun r2 s1 => ((r2 ≠ 0 → (kl s1 a0 = 1) ∧ (kl s1 (fR s1 a0 6) = 105) ∧ (0 ≤ a1 ∧ a1 < le s1 (fR s1 a0 6)) ∧ (kl s1 (fR s1 a0 1) = 8) ∧ (kl s1 (aR s1 (fR s1 a0 6) a1) = 2) ∧ ck iv L h0 d 160 [vr (aR s1 (fR s1 a0 6) a1), vr (fR s1 a0 1), vr (fR s1 (fR s1 a0 1) 2)] s1 (qv fun s8 => (kl s8 a0 = 1) ∧ (kl s8 (fR s8 a0 6) = 105) ∧ (0 ≤ a1 ∧ a1 < le s8 (fR s8 a0 6)) ∧ (kl s8 (aR s8 (fR s8 a0 6) a1) = 2) ∧ F (fI s8 (aR s8 (fR s8 a0 6) a1) 5) s8)) ∧ (r2 = 0 → F (-1) s1)))) : ck iv L h0 (d + 1) 19 [vr a0, vi a1] s (qi F) := by
  show wk iv L h0 (d + 1) 19 0 [lr a0, li a1] [] s (qi F)
  refine w_iload_n rfl rfl ?_
  refine w_static (as := [vi a1]) (r := []) rfl rfl rfl rfl rfl (wc_mono H (Nat.le_refl _) ?_)
  rintro _ s1 ⟨r2, rfl, H⟩
  show wk iv L h0 (d + 1) 19 4 [lr a0, li a1] [vi r2] s1 (qi F)
  refine w_if_ne rfl (fun h => ?_) (fun h => ?_)
  · replace H := H.1 h
    refine w_aload_n rfl rfl ?_
    obtain ⟨g3, H⟩ := H
    refine c_getr rfl rfl rfl g3 ?_
    refine w_iload_n rfl rfl ?_
    obtain ⟨g4, H⟩ := H
    obtain ⟨g5, H⟩ := H
    refine c_aald (t := 5) rfl ⟨g4, by decide, by decide⟩ g5 ?_
    refine w_aload_n rfl rfl ?_
    refine c_getr rfl rfl rfl g3 ?_
    refine w_aload_n rfl rfl ?_
    refine c_getr rfl rfl rfl g3 ?_
    obtain ⟨g6, H⟩ := H
    refine c_getr rfl rfl rfl g6 ?_
    obtain ⟨g7, H⟩ := H
    refine c_virt (p := (aR s1 (fR s1 a0 6) a1)) (as := [vr (fR s1 a0 1), vr (fR s1 (fR s1 a0 1) 2)]) (r := []) rfl rfl rfl rfl rfl rfl g7 (wc_mono H (Nat.le_refl _) ?_)
    rintro _ s8 ⟨rfl, H⟩
    show wk iv L h0 (d + 1) 19 29 [lr a0, li a1] [] s8 (qi F)
    refine w_aload_n rfl rfl ?_
    obtain ⟨g9, H⟩ := H
    refine c_getr rfl rfl rfl g9 ?_
    refine w_iload_n rfl rfl ?_
    obtain ⟨g10, H⟩ := H
    obtain ⟨g11, H⟩ := H
    refine c_aald (t := 5) rfl ⟨g10, by decide, by decide⟩ g11 ?_
    obtain ⟨g12, H⟩ := H
    refine c_get rfl rfl rfl g12 ?_
    exact w_iret rfl rfl ⟨_, rfl, H⟩
  · replace H := H.2 h
    refine w_iconst (n := (-1)) rfl rfl ?_
    exact w_iret rfl rfl ⟨_, rfl, H⟩

/-- HoleDesk.fill(I)I -/
theorem C20 {iv : List (Int × Int)} {L : Nat} {h0 : MH} {d : Nat} {s : SC} {a0 : Nat} {a1 : Int} {F : Int → SC → Prop} (H : ck iv L h0 d 41 [vi a1] s (qi fun r2 s1 => ((r2 ≠ 0 → (kl s1 a0 = 1) ∧ (kl s1 (fR s1 a0 1) = 8) ∧ (kl s1 (fR s1 (fR s1 a0 1) 2) = 5) ∧ ((fI s1 (fR s1 (fR s1 a0 1) 2) 1 = 0 → (kl s1 (fR s1 a0 6) = 105) ∧ (0 ≤ a1 ∧ a1 < le s1 (fR s1 a0 6)) ∧ (-2147483648 ≤ (fI s1 (fR s1 a0 1) 3) - 1 ∧ (fI s1 (fR s1 a0 1) 3) - 1 ≤ 2147483647) ∧ (kl s1 (aR s1 (fR s1 a0 6) a1) = 2) ∧ (-2147483648 ≤ ((fI s1 (fR s1 a0 1) 3) - 1) + (fI s1 (aR s1 (fR s1 a0 6) a1) 5) ∧ ((fI s1 (fR s1 a0 1) 3) - 1) + (fI s1 (aR s1 (fR s1 a0 6) a1) 5) ≤ 2147483647) ∧ ((60 < ((fI s1 (fR s1 a0 1) 3) - 1) + (fI s1 (aR s1 (fR s1 a0 6) a1) 5) → F (-2) s1) ∧ (((fI s1 (fR s1 a0 1) 3) - 1) + (fI s1 (aR s1 (fR s1 a0 6) a1) 5) ≤ 60 → ck iv L h0 d 205 [vr (fR s1 a0 1), vi (fI s1 (aR s1 (fR s1 a0 6) a1) 5)] s1 (qi fun r12 s11 => ((r12 = 0 → (kl s11 (aR s1 (fR s1 a0 6) a1) = 2) ∧ ((fI s11 (aR s1 (fR s1 a0 6) a1) 5 ≠ 0 → (kl s11 a0 = 1) ∧ (kl s11 (fR s11 a0 1) = 8) ∧ ck iv L h0 d 219 [vr (fR s11 a0 1)] s11 (qv fun s16 => (kl s16 a0 = 1) ∧ (kl s16 (aR s1 (fR s1 a0 6) a1) = 2) ∧ ck iv L h0 d 161 [vr (aR s1 (fR s1 a0 6) a1), vr (fR s16 a0 1)] s16 (qa fun r20 s19 => (kl s19 a0 = 1) ∧ (kl s19 (fR s19 a0 1) = 8) ∧ ck iv L h0 d 208 [vr (fR s19 a0 1), vr (fR s1 (fR s1 a0 1) 2), vr r20] s19 (qv fun s23 => (kl s23 (fR s1 (fR s1 a0 1) 2) = 5) ∧ (kl s23 a0 = 1) ∧ (kl s23 (fR s23 a0 1) = 8) ∧ ck iv L h0 d 51 [vr a0] (uR (uR s23 (fR s1 (fR s1 a0 1) 2) 12 r20) (fR s23 a0 1) 2 r20) (qv fun s27 => (kl s27 r20 = 5) ∧ F (fI s27 r20 0) s27))))) ∧ (fI s11 (aR s1 (fR s1 a0 6) a1) 5 = 0 → (kl s11 a0 = 1) ∧ ck iv L h0 d 47 [vr a0, vi 1] s11 (qi fun r31 s30 => F r31 s30)))) ∧ (r12 ≠ 0 → F (-2) s11)))))) ∧ (fI s1 (fR s1 (fR s1 a0 1) 2) 1 ≠ 0 → F (-4) s1))) ∧ (r2 = 0 → F (-1) s1)))) : ck iv L h0 (d + 1) 20 [vr a0, vi a1] s (qi F) := by
  show wk iv L h0 (d + 1) 20 0 [lr a0, li a1] [] s (qi F)
  refine w_iload_n rfl rfl ?_
  refine w_static (as := [vi a1]) (r := []) rfl rfl rfl rfl rfl (wc_mono H (Nat.le_refl _) ?_)
  rintro _ s1 ⟨r2, rfl, H⟩
  show wk iv L h0 (d + 1) 20 4 [lr a0, li a1] [vi r2] s1 (qi F)
  refine w_if_ne rfl (fun h => ?_) (fun h => ?_)
  · replace H := H.1 h
    refine w_aload_n rfl rfl ?_
    obtain ⟨g3, H⟩ := H
    refine c_getr rfl rfl rfl g3 ?_
    obtain ⟨g4, H⟩ := H
    refine c_getr rfl rfl rfl g4 ?_
    refine w_astore_n rfl rfl ?_
    refine w_aload_n rfl rfl ?_
    obtain ⟨g5, H⟩ := H
    refine c_get rfl rfl rfl g5 ?_
    refine w_if_eq rfl (fun h => ?_) (fun h => ?_)
    · replace H := H.1 h
      refine w_aload_n rfl rfl ?_
      refine c_getr rfl rfl rfl g3 ?_
      refine w_iload_n rfl rfl ?_
      obtain ⟨g6, H⟩ := H
      obtain ⟨g7, H⟩ := H
      refine c_aald (t := 5) rfl ⟨g6, by decide, by decide⟩ g7 ?_
      refine w_astore_n rfl rfl ?_
      refine w_aload_n rfl rfl ?_
      refine c_getr rfl rfl rfl g3 ?_
      refine c_get rfl rfl rfl g4 ?_
      refine w_iconst (n := 1) rfl rfl ?_
      obtain ⟨g8, H⟩ := H
      refine w_isub rfl g8 ?_
      refine w_aload_n rfl rfl ?_
      obtain ⟨g9, H⟩ := H
      refine c_get rfl rfl rfl g9 ?_
      obtain ⟨g10, H⟩ := H
      refine w_iadd rfl g10 ?_
      refine w_bipush (n := 60) rfl rfl rfl ?_
      refine w_icmp_gt rfl (fun h => ?_) (fun h => ?_)
      · replace H := H.1 h
        refine w_bipush (n := (-2)) rfl rfl rfl ?_
        exact w_iret rfl rfl ⟨_, rfl, H⟩
      · replace H := H.2 h
        refine w_aload_n rfl rfl ?_
        refine c_getr rfl rfl rfl g3 ?_
        refine w_aload_n rfl rfl ?_
        refine c_get rfl rfl rfl g9 ?_
        refine c_virt (p := (fR s1 a0 1)) (as := [vi (fI s1 (aR s1 (fR s1 a0 6) a1) 5)]) (r := []) rfl rfl rfl rfl rfl rfl g4 (wc_mono H (Nat.le_refl _) ?_)
        rintro _ s11 ⟨r12, rfl, H⟩
        show wk iv L h0 (d + 1) 20 64 [lr a0, li a1, lr (fR s1 (fR s1 a0 1) 2), lr (aR s1 (fR s1 a0 6) a1)] [vi r12] s11 (qi F)
        refine w_if_eq rfl (fun h => ?_) (fun h => ?_)
        · replace H := H.1 h
          refine w_aload_n rfl rfl ?_
          obtain ⟨g13, H⟩ := H
          refine c_get rfl rfl rfl g13 ?_
          refine w_if_ne rfl (fun h => ?_) (fun h => ?_)
          · replace H := H.1 h
            refine w_aload_n rfl rfl ?_
            obtain ⟨g14, H⟩ := H
            refine c_getr rfl rfl rfl g14 ?_
            obtain ⟨g15, H⟩ := H
            refine c_virt (p := (fR s11 a0 1)) (as := []) (r := []) rfl rfl rfl rfl rfl rfl g15 (wc_mono H (Nat.le_refl _) ?_)
            rintro _ s16 ⟨rfl, H⟩
            show wk iv L h0 (d + 1) 20 90 [lr a0, li a1, lr (fR s1 (fR s1 a0 1) 2), lr (aR s1 (fR s1 a0 6) a1)] [] s16 (qi F)
            refine w_aload_n rfl rfl ?_
            refine w_aload_n rfl rfl ?_
            obtain ⟨g17, H⟩ := H
            refine c_getr rfl rfl rfl g17 ?_
            obtain ⟨g18, H⟩ := H
            refine c_virt (p := (aR s1 (fR s1 a0 6) a1)) (as := [vr (fR s16 a0 1)]) (r := []) rfl rfl rfl rfl rfl rfl g18 (wc_mono H (Nat.le_refl _) ?_)
            rintro _ s19 ⟨r20, rfl, H⟩
            show wk iv L h0 (d + 1) 20 98 [lr a0, li a1, lr (fR s1 (fR s1 a0 1) 2), lr (aR s1 (fR s1 a0 6) a1)] [vr r20] s19 (qi F)
            refine w_astore rfl rfl ?_
            refine w_aload_n rfl rfl ?_
            obtain ⟨g21, H⟩ := H
            refine c_getr rfl rfl rfl g21 ?_
            refine w_aload_n rfl rfl ?_
            refine w_aload rfl rfl ?_
            obtain ⟨g22, H⟩ := H
            refine c_virt (p := (fR s19 a0 1)) (as := [vr (fR s1 (fR s1 a0 1) 2), vr r20]) (r := []) rfl rfl rfl rfl rfl rfl g22 (wc_mono H (Nat.le_refl _) ?_)
            rintro _ s23 ⟨rfl, H⟩
            show wk iv L h0 (d + 1) 20 110 [lr a0, li a1, lr (fR s1 (fR s1 a0 1) 2), lr (aR s1 (fR s1 a0 6) a1), lr r20] [] s23 (qi F)
            refine w_aload_n rfl rfl ?_
            refine w_aload rfl rfl ?_
            obtain ⟨g24, H⟩ := H
            refine c_putr rfl rfl rfl rfl g24 ?_
            refine w_aload_n rfl rfl ?_
            obtain ⟨g25, H⟩ := H
            refine c_getr rfl rfl rfl g25 ?_
            show wk iv L h0 (d + 1) 20 120 [lr a0, li a1, lr (fR s1 (fR s1 a0 1) 2), lr (aR s1 (fR s1 a0 6) a1), lr r20] [vr (fR s23 a0 1)] (uR s23 (fR s1 (fR s1 a0 1) 2) 12 r20) (qi F)
            refine w_aload rfl rfl ?_
            obtain ⟨g26, H⟩ := H
            refine c_putr rfl rfl rfl rfl g26 ?_
            refine w_aload_n rfl rfl ?_
            refine c_virt (p := a0) (as := []) (r := []) rfl rfl rfl rfl rfl rfl g25 (wc_mono H (Nat.le_refl _) ?_)
            rintro _ s27 ⟨rfl, H⟩
            show wk iv L h0 (d + 1) 20 129 [lr a0, li a1, lr (fR s1 (fR s1 a0 1) 2), lr (aR s1 (fR s1 a0 6) a1), lr r20] [] s27 (qi F)
            refine w_aload rfl rfl ?_
            obtain ⟨g28, H⟩ := H
            refine c_get rfl rfl rfl g28 ?_
            exact w_iret rfl rfl ⟨_, rfl, H⟩
          · replace H := H.2 h
            refine w_aload_n rfl rfl ?_
            refine w_iconst (n := 1) rfl rfl ?_
            obtain ⟨g29, H⟩ := H
            refine c_virt (p := a0) (as := [vi 1]) (r := []) rfl rfl rfl rfl rfl rfl g29 (wc_mono H (Nat.le_refl _) ?_)
            rintro _ s30 ⟨r31, rfl, H⟩
            show wk iv L h0 (d + 1) 20 82 [lr a0, li a1, lr (fR s1 (fR s1 a0 1) 2), lr (aR s1 (fR s1 a0 6) a1)] [vi r31] s30 (qi F)
            exact w_iret rfl rfl ⟨_, rfl, H⟩
        · replace H := H.2 h
          refine w_bipush (n := (-2)) rfl rfl rfl ?_
          exact w_iret rfl rfl ⟨_, rfl, H⟩
    · replace H := H.2 h
      refine w_bipush (n := (-4)) rfl rfl rfl ?_
      exact w_iret rfl rfl ⟨_, rfl, H⟩
  · replace H := H.2 h
    refine w_iconst (n := (-1)) rfl rfl ?_
    exact w_iret rfl rfl ⟨_, rfl, H⟩

/-- HoleDesk.undo()I -/
theorem C21 {iv : List (Int × Int)} {L : Nat} {h0 : MH} {d : Nat} {s : SC} {a0 : Nat} {F : Int → SC → Prop} (H : (kl s a0 = 1) ∧ (kl s (fR s a0 1) = 8) ∧ ((fI s (fR s a0 1) 7 ≠ 0 → ck iv L h0 d 220 [vr (fR s a0 1)] s (qv fun s3 => (kl s3 a0 = 1) ∧ ck iv L h0 d 52 [vr a0] s3 (qv fun s5 => (kl s5 a0 = 1) ∧ (kl s5 (fR s5 a0 1) = 8) ∧ F (fI s5 (fR s5 a0 1) 7) s5))) ∧ (fI s (fR s a0 1) 7 = 0 → F (-4) s))) : ck iv L h0 (d + 1) 21 [vr a0] s (qi F) := by
  show wk iv L h0 (d + 1) 21 0 [lr a0] [] s (qi F)
  refine w_aload_n rfl rfl ?_
  obtain ⟨g1, H⟩ := H
  refine c_getr rfl rfl rfl g1 ?_
  obtain ⟨g2, H⟩ := H
  refine c_get rfl rfl rfl g2 ?_
  refine w_if_ne rfl (fun h => ?_) (fun h => ?_)
  · replace H := H.1 h
    refine w_aload_n rfl rfl ?_
    refine c_getr rfl rfl rfl g1 ?_
    refine c_virt (p := (fR s a0 1)) (as := []) (r := []) rfl rfl rfl rfl rfl rfl g2 (wc_mono H (Nat.le_refl _) ?_)
    rintro _ s3 ⟨rfl, H⟩
    show wk iv L h0 (d + 1) 21 20 [lr a0] [] s3 (qi F)
    refine w_aload_n rfl rfl ?_
    obtain ⟨g4, H⟩ := H
    refine c_virt (p := a0) (as := []) (r := []) rfl rfl rfl rfl rfl rfl g4 (wc_mono H (Nat.le_refl _) ?_)
    rintro _ s5 ⟨rfl, H⟩
    show wk iv L h0 (d + 1) 21 24 [lr a0] [] s5 (qi F)
    refine w_aload_n rfl rfl ?_
    obtain ⟨g6, H⟩ := H
    refine c_getr rfl rfl rfl g6 ?_
    obtain ⟨g7, H⟩ := H
    refine c_get rfl rfl rfl g7 ?_
    exact w_iret rfl rfl ⟨_, rfl, H⟩
  · replace H := H.2 h
    refine w_bipush (n := (-4)) rfl rfl rfl ?_
    exact w_iret rfl rfl ⟨_, rfl, H⟩

/-- HoleDesk.offers()I -/
theorem C22 {iv : List (Int × Int)} {L : Nat} {h0 : MH} {d : Nat} {s : SC} {a0 : Nat} {F : Int → SC → Prop} (H : (kl s a0 = 1) ∧ (kl s (fR s a0 1) = 8) ∧ (kl s (fR s (fR s a0 1) 2) = 5) ∧ ((fI s (fR s (fR s a0 1) 2) 1 ≠ 0 → F (-4) s) ∧ (fI s (fR s (fR s a0 1) 2) 1 = 0 → ck iv L h0 d 57 [vr a0] s (qi fun r5 s4 => F r5 s4)))) : ck iv L h0 (d + 1) 22 [vr a0] s (qi F) := by
  show wk iv L h0 (d + 1) 22 0 [lr a0] [] s (qi F)
  refine w_aload_n rfl rfl ?_
  obtain ⟨g1, H⟩ := H
  refine c_getr rfl rfl rfl g1 ?_
  obtain ⟨g2, H⟩ := H
  refine c_getr rfl rfl rfl g2 ?_
  obtain ⟨g3, H⟩ := H
  refine c_get rfl rfl rfl g3 ?_
  refine w_if_ne rfl (fun h => ?_) (fun h => ?_)
  · replace H := H.1 h
    refine w_bipush (n := (-4)) rfl rfl rfl ?_
    exact w_iret rfl rfl ⟨_, rfl, H⟩
  · replace H := H.2 h
    refine w_aload_n rfl rfl ?_
    refine c_virt (p := a0) (as := []) (r := []) rfl rfl rfl rfl rfl rfl g1 (wc_mono H (Nat.le_refl _) ?_)
    rintro _ s4 ⟨r5, rfl, H⟩
    show wk iv L h0 (d + 1) 22 17 [lr a0] [vi r5] s4 (qi F)
    refine w_goto rfl ?_
    exact w_iret rfl rfl ⟨_, rfl, H⟩

/-- HoleDesk.offer(II)I -/
theorem C23 {iv : List (Int × Int)} {L : Nat} {h0 : MH} {d : Nat} {s : SC} {a0 : Nat} {a1 : Int} {a2 : Int} {F : Int → SC → Prop} (H : ((a2 = 0 → (kl s a0 = 1) ∧ (kl s (fR s a0 1) = 8) ∧ (kl s (fR s (fR s a0 1) 2) = 5) ∧ ((fI s (fR s (fR s a0 1) 2) 1 = 0 → ck iv L h0 d 57 [vr a0] s (qi fun r5 s4 => ((a1 < 0 → F (-9) s4) ∧ (0 ≤ a1 → ((a1 < r5 → ((a2 ≠ 0 → (kl s4 a0 = 1) ∧ (kl s4 (fR s4 a0 9) = 100) ∧ (0 ≤ a1 ∧ a1 < le s4 (fR s4 a0 9)) ∧ F (aI s4 (fR s4 a0 9) a1) s4) ∧ (a2 = 0 → (kl s4 a0 = 1) ∧ (kl s4 (fR s4 a0 8) = 100) ∧ (0 ≤ a1 ∧ a1 < le s4 (fR s4 a0 8)) ∧ F (aI s4 (fR s4 a0 8) a1) s4))) ∧ (r5 ≤ a1 → F (-9) s4)))))) ∧ (fI s (fR s (fR s a0 1) 2) 1 ≠ 0 → F (-4) s))) ∧ (a2 ≠ 0 → ((a2 = 1 → (kl s a0 = 1) ∧ (kl s (fR s a0 1) = 8) ∧ (kl s (fR s (fR s a0 1) 2) = 5) ∧ ((fI s (fR s (fR s a0 1) 2) 1 = 0 → ck iv L h0 d 57 [vr a0] s (qi fun r16 s15 => ((a1 < 0 → F (-9) s15) ∧ (0 ≤ a1 → ((a1 < r16 → ((a2 ≠ 0 → (kl s15 a0 = 1) ∧ (kl s15 (fR s15 a0 9) = 100) ∧ (0 ≤ a1 ∧ a1 < le s15 (fR s15 a0 9)) ∧ F (aI s15 (fR s15 a0 9) a1) s15) ∧ (a2 = 0 → (kl s15 a0 = 1) ∧ (kl s15 (fR s15 a0 8) = 100) ∧ (0 ≤ a1 ∧ a1 < le s15 (fR s15 a0 8)) ∧ F (aI s15 (fR s15 a0 8) a1) s15))) ∧ (r16 ≤ a1 → F (-9) s15)))))) ∧ (fI s (fR s (fR s a0 1) 2) 1 ≠ 0 → F (-4) s))) ∧ (a2 ≠ 1 → F (-1) s))))) : ck iv L h0 (d + 1) 23 [vr a0, vi a1, vi a2] s (qi F) := by
  show wk iv L h0 (d + 1) 23 0 [lr a0, li a1, li a2] [] s (qi F)
  refine w_iload_n rfl rfl ?_
  refine w_if_eq rfl (fun h => ?_) (fun h => ?_)
  · replace H := H.1 h
    refine w_aload_n rfl rfl ?_
    obtain ⟨g1, H⟩ := H
    refine c_getr rfl rfl rfl g1 ?_
    obtain ⟨g2, H⟩ := H
    refine c_getr rfl rfl rfl g2 ?_
    obtain ⟨g3, H⟩ := H
    refine c_get rfl rfl rfl g3 ?_
    refine w_if_eq rfl (fun h => ?_) (fun h => ?_)
    · replace H := H.1 h
      refine w_aload_n rfl rfl ?_
      refine c_virt (p := a0) (as := []) (r := []) rfl rfl rfl rfl rfl rfl g1 (wc_mono H (Nat.le_refl _) ?_)
      rintro _ s4 ⟨r5, rfl, H⟩
      show wk iv L h0 (d + 1) 23 31 [lr a0, li a1, li a2] [vi r5] s4 (qi F)
      refine w_istore_n rfl rfl ?_
      refine w_iload_n rfl rfl ?_
      refine w_if_lt rfl (fun h => ?_) (fun h => ?_)
      · replace H := H.1 h
        refine w_bipush (n := (-9)) rfl rfl rfl ?_
        exact w_iret rfl rfl ⟨_, rfl, H⟩
      · replace H := H.2 h
        refine w_iload_n rfl rfl ?_
        refine w_iload_n rfl rfl ?_
        refine w_icmp_lt rfl (fun h => ?_) (fun h => ?_)
        · replace H := H.1 h
          refine w_iload_n rfl rfl ?_
          refine w_if_ne rfl (fun h => ?_) (fun h => ?_)
          · replace H := H.1 h
            refine w_aload_n rfl rfl ?_
            obtain ⟨g6, H⟩ := H
            refine c_getr rfl rfl rfl g6 ?_
            refine w_iload_n rfl rfl ?_
            obtain ⟨g7, H⟩ := H
            obtain ⟨g8, H⟩ := H
            refine c_ald rfl g7 g8 ?_
            exact w_iret rfl rfl ⟨_, rfl, H⟩
          · replace H := H.2 h
            refine w_aload_n rfl rfl ?_
            obtain ⟨g9, H⟩ := H
            refine c_getr rfl rfl rfl g9 ?_
            refine w_iload_n rfl rfl ?_
            obtain ⟨g10, H⟩ := H
            obtain ⟨g11, H⟩ := H
            refine c_ald rfl g10 g11 ?_
            refine w_goto rfl ?_
            exact w_iret rfl rfl ⟨_, rfl, H⟩
        · replace H := H.2 h
          refine w_bipush (n := (-9)) rfl rfl rfl ?_
          exact w_iret rfl rfl ⟨_, rfl, H⟩
    · replace H := H.2 h
      refine w_bipush (n := (-4)) rfl rfl rfl ?_
      exact w_iret rfl rfl ⟨_, rfl, H⟩
  · replace H := H.2 h
    refine w_iload_n rfl rfl ?_
    refine w_iconst (n := 1) rfl rfl ?_
    refine w_icmp_eq rfl (fun h => ?_) (fun h => ?_)
    · replace H := H.1 h
      refine w_aload_n rfl rfl ?_
      obtain ⟨g12, H⟩ := H
      refine c_getr rfl rfl rfl g12 ?_
      obtain ⟨g13, H⟩ := H
      refine c_getr rfl rfl rfl g13 ?_
      obtain ⟨g14, H⟩ := H
      refine c_get rfl rfl rfl g14 ?_
      refine w_if_eq rfl (fun h => ?_) (fun h => ?_)
      · replace H := H.1 h
        refine w_aload_n rfl rfl ?_
        refine c_virt (p := a0) (as := []) (r := []) rfl rfl rfl rfl rfl rfl g12 (wc_mono H (Nat.le_refl _) ?_)
        rintro _ s15 ⟨r16, rfl, H⟩
        show wk iv L h0 (d + 1) 23 31 [lr a0, li a1, li a2] [vi r16] s15 (qi F)
        refine w_istore_n rfl rfl ?_
        refine w_iload_n rfl rfl ?_
        refine w_if_lt rfl (fun h => ?_) (fun h => ?_)
        · replace H := H.1 h
          refine w_bipush (n := (-9)) rfl rfl rfl ?_
          exact w_iret rfl rfl ⟨_, rfl, H⟩
        · replace H := H.2 h
          refine w_iload_n rfl rfl ?_
          refine w_iload_n rfl rfl ?_
          refine w_icmp_lt rfl (fun h => ?_) (fun h => ?_)
          · replace H := H.1 h
            refine w_iload_n rfl rfl ?_
            refine w_if_ne rfl (fun h => ?_) (fun h => ?_)
            · replace H := H.1 h
              refine w_aload_n rfl rfl ?_
              obtain ⟨g17, H⟩ := H
              refine c_getr rfl rfl rfl g17 ?_
              refine w_iload_n rfl rfl ?_
              obtain ⟨g18, H⟩ := H
              obtain ⟨g19, H⟩ := H
              refine c_ald rfl g18 g19 ?_
              exact w_iret rfl rfl ⟨_, rfl, H⟩
            · replace H := H.2 h
              refine w_aload_n rfl rfl ?_
              obtain ⟨g20, H⟩ := H
              refine c_getr rfl rfl rfl g20 ?_
              refine w_iload_n rfl rfl ?_
              obtain ⟨g21, H⟩ := H
              obtain ⟨g22, H⟩ := H
              refine c_ald rfl g21 g22 ?_
              refine w_goto rfl ?_
              exact w_iret rfl rfl ⟨_, rfl, H⟩
          · replace H := H.2 h
            refine w_bipush (n := (-9)) rfl rfl rfl ?_
            exact w_iret rfl rfl ⟨_, rfl, H⟩
      · replace H := H.2 h
        refine w_bipush (n := (-4)) rfl rfl rfl ?_
        exact w_iret rfl rfl ⟨_, rfl, H⟩
    · replace H := H.2 h
      refine w_iconst (n := (-1)) rfl rfl ?_
      exact w_iret rfl rfl ⟨_, rfl, H⟩

/-- HoleDesk.work(I)I -/
theorem C24 {iv : List (Int × Int)} {L : Nat} {h0 : MH} {d : Nat} {s : SC} {a0 : Nat} {a1 : Int} {F : Int → SC → Prop} (H : ck iv L h0 d 42 [vi a1] s (qi fun r2 s1 => ((r2 ≠ 0 → (kl s1 a0 = 1) ∧ (kl s1 (fR s1 a0 1) = 8) ∧ (kl s1 (fR s1 a0 3) = 11) ∧ ck iv L h0 d 227 [vr (fR s1 a0 3), vr (fR s1 (fR s1 a0 1) 1), vi a1] s1 (qi fun r7 s6 => (kl s6 a0 = 1) ∧ ck iv L h0 d 53 [vr a0, vi r7] s6 (qi fun r10 s9 => F r10 s9))) ∧ (r2 = 0 → F (-1) s1)))) : ck iv L h0 (d + 1) 24 [vr a0, vi a1] s (qi F) := by
  show wk iv L h0 (d + 1) 24 0 [lr a0, li a1] [] s (qi F)
  refine w_iload_n rfl rfl ?_
  refine w_static (as := [vi a1]) (r := []) rfl rfl rfl rfl rfl (wc_mono H (Nat.le_refl _) ?_)
  rintro _ s1 ⟨r2, rfl, H⟩
  show wk iv L h0 (d + 1) 24 4 [lr a0, li a1] [vi r2] s1 (qi F)
  refine w_if_ne rfl (fun h => ?_) (fun h => ?_)
  · replace H := H.1 h
    refine w_aload_n rfl rfl ?_
    refine w_aload_n rfl rfl ?_
    obtain ⟨g3, H⟩ := H
    refine c_getr rfl rfl rfl g3 ?_
    refine w_aload_n rfl rfl ?_
    refine c_getr rfl rfl rfl g3 ?_
    obtain ⟨g4, H⟩ := H
    refine c_getr rfl rfl rfl g4 ?_
    refine w_iload_n rfl rfl ?_
    obtain ⟨g5, H⟩ := H
    refine c_virt (p := (fR s1 a0 3)) (as := [vr (fR s1 (fR s1 a0 1) 1), vi a1]) (r := [vr a0]) rfl rfl rfl rfl rfl rfl g5 (wc_mono H (Nat.le_refl _) ?_)
    rintro _ s6 ⟨r7, rfl, H⟩
    show wk iv L h0 (d + 1) 24 25 [lr a0, li a1] [vi r7, vr a0] s6 (qi F)
    obtain ⟨g8, H⟩ := H
    refine c_virt (p := a0) (as := [vi r7]) (r := []) rfl rfl rfl rfl rfl rfl g8 (wc_mono H (Nat.le_refl _) ?_)
    rintro _ s9 ⟨r10, rfl, H⟩
    show wk iv L h0 (d + 1) 24 28 [lr a0, li a1] [vi r10] s9 (qi F)
    exact w_iret rfl rfl ⟨_, rfl, H⟩
  · replace H := H.2 h
    refine w_iconst (n := (-1)) rfl rfl ?_
    exact w_iret rfl rfl ⟨_, rfl, H⟩

/-- HoleDesk.resume(I)I -/
theorem C25 {iv : List (Int × Int)} {L : Nat} {h0 : MH} {d : Nat} {s : SC} {a0 : Nat} {a1 : Int} {F : Int → SC → Prop} (H : ck iv L h0 d 42 [vi a1] s (qi fun r2 s1 => ((r2 ≠ 0 → (kl s1 a0 = 1) ∧ (kl s1 (fR s1 a0 3) = 11) ∧ ((fR s1 (fR s1 a0 3) 6 = 2 → F (-4) s1) ∧ (fR s1 (fR s1 a0 3) 6 ≠ 2 → ((fI s1 a0 15 ≠ 0 → F (-4) s1) ∧ (fI s1 a0 15 = 0 → (kl s1 (fR s1 a0 1) = 8) ∧ ck iv L h0 d 218 [vr (fR s1 a0 1)] s1 (qi fun r7 s6 => ((r7 = 0 → (kl s6 a0 = 1) ∧ (kl s6 (fR s6 a0 3) = 11) ∧ ck iv L h0 d 228 [vr (fR s6 a0 3), vi a1] s6 (qi fun r11 s10 => (kl s10 a0 = 1) ∧ ck iv L h0 d 53 [vr a0, vi r11] s10 (qi fun r14 s13 => F r14 s13))) ∧ (r7 ≠ 0 → F (-4) s6)))))))) ∧ (r2 = 0 → F (-1) s1)))) : ck iv L h0 (d + 1) 25 [vr a0, vi a1] s (qi F) := by
  show wk iv L h0 (d + 1) 25 0 [lr a0, li a1] [] s (qi F)
  refine w_iload_n rfl rfl ?_
  refine w_static (as := [vi a1]) (r := []) rfl rfl rfl rfl rfl (wc_mono H (Nat.le_refl _) ?_)
  rintro _ s1 ⟨r2, rfl, H⟩
  show wk iv L h0 (d + 1) 25 4 [lr a0, li a1] [vi r2] s1 (qi F)
  refine w_if_ne rfl (fun h => ?_) (fun h => ?_)
  · replace H := H.1 h
    refine w_aload_n rfl rfl ?_
    obtain ⟨g3, H⟩ := H
    refine c_getr rfl rfl rfl g3 ?_
    obtain ⟨g4, H⟩ := H
    refine c_getr rfl rfl rfl g4 ?_
    refine c_null rfl (fun h => ?_) (fun h => ?_)
    · replace H := H.1 h
      refine w_bipush (n := (-4)) rfl rfl rfl ?_
      exact w_iret rfl rfl ⟨_, rfl, H⟩
    · replace H := H.2 h
      refine w_aload_n rfl rfl ?_
      refine c_get rfl rfl rfl g3 ?_
      refine w_if_ne rfl (fun h => ?_) (fun h => ?_)
      · replace H := H.1 h
        refine w_bipush (n := (-4)) rfl rfl rfl ?_
        exact w_iret rfl rfl ⟨_, rfl, H⟩
      · replace H := H.2 h
        refine w_aload_n rfl rfl ?_
        refine c_getr rfl rfl rfl g3 ?_
        obtain ⟨g5, H⟩ := H
        refine c_virt (p := (fR s1 a0 1)) (as := []) (r := []) rfl rfl rfl rfl rfl rfl g5 (wc_mono H (Nat.le_refl _) ?_)
        rintro _ s6 ⟨r7, rfl, H⟩
        show wk iv L h0 (d + 1) 25 33 [lr a0, li a1] [vi r7] s6 (qi F)
        refine w_if_eq rfl (fun h => ?_) (fun h => ?_)
        · replace H := H.1 h
          refine w_aload_n rfl rfl ?_
          refine w_aload_n rfl rfl ?_
          obtain ⟨g8, H⟩ := H
          refine c_getr rfl rfl rfl g8 ?_
          refine w_iload_n rfl rfl ?_
          obtain ⟨g9, H⟩ := H
          refine c_virt (p := (fR s6 a0 3)) (as := [vi a1]) (r := [vr a0]) rfl rfl rfl rfl rfl rfl g9 (wc_mono H (Nat.le_refl _) ?_)
          rintro _ s10 ⟨r11, rfl, H⟩
          show wk iv L h0 (d + 1) 25 48 [lr a0, li a1] [vi r11, vr a0] s10 (qi F)
          obtain ⟨g12, H⟩ := H
          refine c_virt (p := a0) (as := [vi r11]) (r := []) rfl rfl rfl rfl rfl rfl g12 (wc_mono H (Nat.le_refl _) ?_)
          rintro _ s13 ⟨r14, rfl, H⟩
          show wk iv L h0 (d + 1) 25 51 [lr a0, li a1] [vi r14] s13 (qi F)
          exact w_iret rfl rfl ⟨_, rfl, H⟩
        · replace H := H.2 h
          refine w_bipush (n := (-4)) rfl rfl rfl ?_
          exact w_iret rfl rfl ⟨_, rfl, H⟩
  · replace H := H.2 h
    refine w_iconst (n := (-1)) rfl rfl ?_
    exact w_iret rfl rfl ⟨_, rfl, H⟩

/-- HoleDesk.steps()I -/
theorem C26 {iv : List (Int × Int)} {L : Nat} {h0 : MH} {d : Nat} {s : SC} {a0 : Nat} {F : Int → SC → Prop} (H : (kl s a0 = 1) ∧ (kl s (fR s a0 3) = 11) ∧ F (fI s (fR s a0 3) 3) s) : ck iv L h0 d 26 [vr a0] s (qi F) := by
  show wk iv L h0 d 26 0 [lr a0] [] s (qi F)
  refine w_aload_n rfl rfl ?_
  obtain ⟨g1, H⟩ := H
  refine c_getr rfl rfl rfl g1 ?_
  obtain ⟨g2, H⟩ := H
  refine c_get rfl rfl rfl g2 ?_
  exact w_iret rfl rfl ⟨_, rfl, H⟩

/-- HoleDesk.where()I -/
theorem C27 {iv : List (Int × Int)} {L : Nat} {h0 : MH} {d : Nat} {s : SC} {a0 : Nat} {F : Int → SC → Prop} (H : (kl s a0 = 1) ∧ (kl s (fR s a0 3) = 11) ∧ F (fI s (fR s a0 3) 5) s) : ck iv L h0 d 27 [vr a0] s (qi F) := by
  show wk iv L h0 d 27 0 [lr a0] [] s (qi F)
  refine w_aload_n rfl rfl ?_
  obtain ⟨g1, H⟩ := H
  refine c_getr rfl rfl rfl g1 ?_
  obtain ⟨g2, H⟩ := H
  refine c_get rfl rfl rfl g2 ?_
  exact w_iret rfl rfl ⟨_, rfl, H⟩

/-- HoleDesk.value(I)I -/
theorem C28 {iv : List (Int × Int)} {L : Nat} {h0 : MH} {d : Nat} {s : SC} {a0 : Nat} {a1 : Int} {F : Int → SC → Prop} (H : (kl s a0 = 1) ∧ (kl s (fR s a0 3) = 11) ∧ ((fR s (fR s a0 3) 6 ≠ 2 → (kl s (fR s a0 4) = 12) ∧ ck iv L h0 d 246 [vr (fR s a0 4), vi a1] s (qi fun r5 s4 => F r5 s4)) ∧ (fR s (fR s a0 3) 6 = 2 → F (-9) s))) : ck iv L h0 (d + 1) 28 [vr a0, vi a1] s (qi F) := by
  show wk iv L h0 (d + 1) 28 0 [lr a0, li a1] [] s (qi F)
  refine w_aload_n rfl rfl ?_
  obtain ⟨g1, H⟩ := H
  refine c_getr rfl rfl rfl g1 ?_
  obtain ⟨g2, H⟩ := H
  refine c_getr rfl rfl rfl g2 ?_
  refine c_nonnull rfl (fun h => ?_) (fun h => ?_)
  · replace H := H.1 h
    refine w_aload_n rfl rfl ?_
    refine c_getr rfl rfl rfl g1 ?_
    refine w_iload_n rfl rfl ?_
    obtain ⟨g3, H⟩ := H
    refine c_virt (p := (fR s a0 4)) (as := [vi a1]) (r := []) rfl rfl rfl rfl rfl rfl g3 (wc_mono H (Nat.le_refl _) ?_)
    rintro _ s4 ⟨r5, rfl, H⟩
    show wk iv L h0 (d + 1) 28 23 [lr a0, li a1] [vi r5] s4 (qi F)
    exact w_iret rfl rfl ⟨_, rfl, H⟩
  · replace H := H.2 h
    refine w_bipush (n := (-9)) rfl rfl rfl ?_
    refine w_goto rfl ?_
    exact w_iret rfl rfl ⟨_, rfl, H⟩

/-- HoleDesk.left(I)I -/
theorem C29 {iv : List (Int × Int)} {L : Nat} {h0 : MH} {d : Nat} {s : SC} {a0 : Nat} {a1 : Int} {F : Int → SC → Prop} (H : (kl s a0 = 1) ∧ ck iv L h0 d 54 [vr a0, vi a1] s (qa fun r3 s2 => ((r3 ≠ 2 → (kl s2 r3 = 10) ∧ (kl s2 (fR s2 r3 2) = 5) ∧ F (fI s2 (fR s2 r3 2) 0) s2) ∧ (r3 = 2 → F (-9) s2)))) : ck iv L h0 (d + 1) 29 [vr a0, vi a1] s (qi F) := by
  show wk iv L h0 (d + 1) 29 0 [lr a0, li a1] [] s (qi F)
  refine w_aload_n rfl rfl ?_
  refine w_iload_n rfl rfl ?_
  obtain ⟨g1, H⟩ := H
  refine c_virt (p := a0) (as := [vi a1]) (r := []) rfl rfl rfl rfl rfl rfl g1 (wc_mono H (Nat.le_refl _) ?_)
  rintro _ s2 ⟨r3, rfl, H⟩
  show wk iv L h0 (d + 1) 29 5 [lr a0, li a1] [vr r3] s2 (qi F)
  refine w_astore_n rfl rfl ?_
  refine w_aload_n rfl rfl ?_
  refine c_nonnull rfl (fun h => ?_) (fun h => ?_)
  · replace H := H.1 h
    refine w_aload_n rfl rfl ?_
    obtain ⟨g4, H⟩ := H
    refine c_getr rfl rfl rfl g4 ?_
    obtain ⟨g5, H⟩ := H
    refine c_get rfl rfl rfl g5 ?_
    exact w_iret rfl rfl ⟨_, rfl, H⟩
  · replace H := H.2 h
    refine w_bipush (n := (-9)) rfl rfl rfl ?_
    refine w_goto rfl ?_
    exact w_iret rfl rfl ⟨_, rfl, H⟩

/-- HoleDesk.seen(III)I -/
theorem C30 {iv : List (Int × Int)} {L : Nat} {h0 : MH} {d : Nat} {s : SC} {a0 : Nat} {a1 : Int} {a2 : Int} {a3 : Int} {F : Int → SC → Prop} (H : ck iv L h0 d 40 [vi a2] s (qi fun r2 s1 => ((r2 ≠ 0 → (kl s1 a0 = 1) ∧ ck iv L h0 d 54 [vr a0, vi a1] s1 (qa fun r5 s4 => ((r5 ≠ 2 → (kl s4 a0 = 1) ∧ (kl s4 r5 = 10) ∧ (kl s4 (fR s4 a0 3) = 11) ∧ ck iv L h0 d 229 [vr (fR s4 a0 3), vr (fR s4 r5 5), vi a2] s4 (qa fun r10 s9 => ((r10 ≠ 2 → (kl s9 a0 = 1) ∧ (kl s9 (fR s9 a0 5) = 12) ∧ ck iv L h0 d 247 [vr (fR s9 a0 5), vr r10] s9 (qv fun s13 => (kl s13 a0 = 1) ∧ (kl s13 (fR s13 a0 5) = 12) ∧ ck iv L h0 d 246 [vr (fR s13 a0 5), vi a3] s13 (qi fun r17 s16 => F r17 s16))) ∧ (r10 = 2 → F (-9) s9)))) ∧ (r5 = 2 → F (-9) s4)))) ∧ (r2 = 0 → F (-1) s1)))) : ck iv L h0 (d + 1) 30 [vr a0, vi a1, vi a2, vi a3] s (qi F) := by
  show wk iv L h0 (d + 1) 30 0 [lr a0, li a1, li a2, li a3] [] s (qi F)
  refine w_iload_n rfl rfl ?_
  refine w_static (as := [vi a2]) (r := []) rfl rfl rfl rfl rfl (wc_mono H (Nat.le_refl _) ?_)
  rintro _ s1 ⟨r2, rfl, H⟩
  show wk iv L h0 (d + 1) 30 4 [lr a0, li a1, li a2, li a3] [vi r2] s1 (qi F)
  refine w_if_ne rfl (fun h => ?_) (fun h => ?_)
  · replace H := H.1 h
    refine w_aload_n rfl rfl ?_
    refine w_iload_n rfl rfl ?_
    obtain ⟨g3, H⟩ := H
    refine c_virt (p := a0) (as := [vi a1]) (r := []) rfl rfl rfl rfl rfl rfl g3 (wc_mono H (Nat.le_refl _) ?_)
    rintro _ s4 ⟨r5, rfl, H⟩
    show wk iv L h0 (d + 1) 30 14 [lr a0, li a1, li a2, li a3] [vr r5] s4 (qi F)
    refine w_astore rfl rfl ?_
    refine w_aload rfl rfl ?_
    refine c_nonnull rfl (fun h => ?_) (fun h => ?_)
    · replace H := H.1 h
      refine w_aload_n rfl rfl ?_
      obtain ⟨g6, H⟩ := H
      refine c_getr rfl rfl rfl g6 ?_
      refine w_aload rfl rfl ?_
      obtain ⟨g7, H⟩ := H
      refine c_getr rfl rfl rfl g7 ?_
      refine w_iload_n rfl rfl ?_
      obtain ⟨g8, H⟩ := H
      refine c_virt (p := (fR s4 a0 3)) (as := [vr (fR s4 r5 5), vi a2]) (r := []) rfl rfl rfl rfl rfl rfl g8 (wc_mono H (Nat.le_refl _) ?_)
      rintro _ s9 ⟨r10, rfl, H⟩
      show wk iv L h0 (d + 1) 30 38 [lr a0, li a1, li a2, li a3, lr r5] [vr r10] s9 (qi F)
      refine w_astore rfl rfl ?_
      refine w_aload rfl rfl ?_
      refine c_nonnull rfl (fun h => ?_) (fun h => ?_)
      · replace H := H.1 h
        refine w_aload_n rfl rfl ?_
        obtain ⟨g11, H⟩ := H
        refine c_getr rfl rfl rfl g11 ?_
        refine w_aload rfl rfl ?_
        obtain ⟨g12, H⟩ := H
        refine c_virt (p := (fR s9 a0 5)) (as := [vr r10]) (r := []) rfl rfl rfl rfl rfl rfl g12 (wc_mono H (Nat.le_refl _) ?_)
        rintro _ s13 ⟨rfl, H⟩
        show wk iv L h0 (d + 1) 30 57 [lr a0, li a1, li a2, li a3, lr r5, lr r10] [] s13 (qi F)
        refine w_aload_n rfl rfl ?_
        obtain ⟨g14, H⟩ := H
        refine c_getr rfl rfl rfl g14 ?_
        refine w_iload_n rfl rfl ?_
        obtain ⟨g15, H⟩ := H
        refine c_virt (p := (fR s13 a0 5)) (as := [vi a3]) (r := []) rfl rfl rfl rfl rfl rfl g15 (wc_mono H (Nat.le_refl _) ?_)
        rintro _ s16 ⟨r17, rfl, H⟩
        show wk iv L h0 (d + 1) 30 65 [lr a0, li a1, li a2, li a3, lr r5, lr r10] [vi r17] s16 (qi F)
        exact w_iret rfl rfl ⟨_, rfl, H⟩
      · replace H := H.2 h
        refine w_bipush (n := (-9)) rfl rfl rfl ?_
        exact w_iret rfl rfl ⟨_, rfl, H⟩
    · replace H := H.2 h
      refine w_null rfl ?_
      refine w_goto rfl ?_
      refine w_astore rfl rfl ?_
      refine w_aload rfl rfl ?_
      refine c_nonnull rfl (fun h => absurd h (by decide)) (fun _ => ?_)
      refine w_bipush (n := (-9)) rfl rfl rfl ?_
      exact w_iret rfl rfl ⟨_, rfl, H⟩
  · replace H := H.2 h
    refine w_iconst (n := (-1)) rfl rfl ?_
    exact w_iret rfl rfl ⟨_, rfl, H⟩

/-- HoleDesk.box(I)I -/
theorem C31 {iv : List (Int × Int)} {L : Nat} {h0 : MH} {d : Nat} {s : SC} {a0 : Nat} {a1 : Int} {F : Int → SC → Prop} (H : ((a1 ≤ 8 → ((0 ≤ a1 → wk iv L h0 (d + 1) 31 20 [lr a0, li a1, li 0] [] s (qi F)) ∧ (a1 < 0 → (kl s a0 = 1) ∧ ck iv L h0 d 47 [vr a0, vi 5] s (qi fun r3 s2 => F r3 s2)))) ∧ (8 < a1 → F (-1) s))) : ck iv L h0 (d + 1) 31 [vr a0, vi a1] s (qi F) := by
  show wk iv L h0 (d + 1) 31 0 [lr a0, li a1] [] s (qi F)
  refine w_iload_n rfl rfl ?_
  refine w_bipush (n := 8) rfl rfl rfl ?_
  refine w_icmp_le rfl (fun h => ?_) (fun h => ?_)
  · replace H := H.1 h
    refine w_iload_n rfl rfl ?_
    refine w_if_ge rfl (fun h => ?_) (fun h => ?_)
    · replace H := H.1 h
      refine w_iconst (n := 0) rfl rfl ?_
      refine w_istore_n rfl rfl ?_
      exact wp_ls (sl_s (sl_s (sl_s (sl_0)))) H
    · replace H := H.2 h
      refine w_aload_n rfl rfl ?_
      refine w_iconst (n := 5) rfl rfl ?_
      obtain ⟨g1, H⟩ := H
      refine c_virt (p := a0) (as := [vi 5]) (r := []) rfl rfl rfl rfl rfl rfl g1 (wc_mono H (Nat.le_refl _) ?_)
      rintro _ s2 ⟨r3, rfl, H⟩
      show wk iv L h0 (d + 1) 31 17 [lr a0, li a1] [vi r3] s2 (qi F)
      exact w_iret rfl rfl ⟨_, rfl, H⟩
  · replace H := H.2 h
    refine w_iconst (n := (-1)) rfl rfl ?_
    exact w_iret rfl rfl ⟨_, rfl, H⟩

/-- HoleDesk.box(I)I at 20 -/
theorem C31_20 {iv : List (Int × Int)} {L : Nat} {h0 : MH} {d : Nat} {s : SC} {l0 : Nat} {l1 : Int} {l2 : Int} {F : Int → SC → Prop} (H : ((8 ≤ l2 → (kl s l0 = 1) ∧ F l1 (uI s l0 12 l1)) ∧ (l2 < 8 → (kl s l0 = 1) ∧ (kl s (fR s l0 10) = 103) ∧ (0 ≤ l2 ∧ l2 < le s (fR s l0 10)) ∧ (-2147483648 ≤ l2 + 1 ∧ l2 + 1 ≤ 2147483647) ∧ wk iv L h0 (d + 1) 31 20 [lr l0, li l1, li (l2 + 1)] [] (uB s (fR s l0 10) l2 2) (qi F)))) : wk iv L h0 (d + 1) 31 20 [lr l0, li l1, li l2] [] s (qi F) := by
  refine w_iload_n rfl rfl ?_
  refine w_bipush (n := 8) rfl rfl rfl ?_
  refine w_icmp_ge rfl (fun h => ?_) (fun h => ?_)
  · replace H := H.1 h
    refine w_aload_n rfl rfl ?_
    refine w_iload_n rfl rfl ?_
    obtain ⟨g1, H⟩ := H
    refine c_put rfl rfl rfl rfl g1 ?_
    refine w_iload_n rfl rfl ?_
    exact w_iret rfl rfl ⟨_, rfl, H⟩
  · replace H := H.2 h
    refine w_aload_n rfl rfl ?_
    obtain ⟨g2, H⟩ := H
    refine c_getr rfl rfl rfl g2 ?_
    refine w_iload_n rfl rfl ?_
    refine w_null rfl ?_
    obtain ⟨g3, H⟩ := H
    obtain ⟨g4, H⟩ := H
    refine c_aast rfl rfl g3 g4 (Or.inl rfl) ?_
    obtain ⟨g5, H⟩ := H
    refine w_iinc rfl rfl rfl g5 ?_
    refine w_goto rfl ?_
    exact wp_ls (sl_s (sl_s (sl_s (sl_0)))) H

/-- HoleDesk.keep(II)I -/
theorem C32 {iv : List (Int × Int)} {L : Nat} {h0 : MH} {d : Nat} {s : SC} {a0 : Nat} {a1 : Int} {a2 : Int} {F : Int → SC → Prop} (H : (kl s a0 = 1) ∧ (kl s (fR s a0 1) = 8) ∧ ck iv L h0 d 207 [vr (fR s a0 1), vi a2] s (qa fun r4 s3 => ((r4 ≠ 2 → (kl s3 a0 = 1) ∧ ck iv L h0 d 46 [vr a0, vi a1] s3 (qi fun r7 s6 => ((r7 ≠ 0 → (kl s6 a0 = 1) ∧ (kl s6 (fR s6 a0 10) = 103) ∧ (0 ≤ a1 ∧ a1 < le s6 (fR s6 a0 10)) ∧ (r4 = 2 ∨ kl s6 r4 = 5) ∧ F 1 (uB s6 (fR s6 a0 10) a1 r4)) ∧ (r7 = 0 → (kl s6 a0 = 1) ∧ ck iv L h0 d 47 [vr a0, vi 2] s6 (qi fun r14 s13 => F r14 s13))))) ∧ (r4 = 2 → F (-1) s3)))) : ck iv L h0 (d + 1) 32 [vr a0, vi a1, vi a2] s (qi F) := by
  show wk iv L h0 (d + 1) 32 0 [lr a0, li a1, li a2] [] s (qi F)
  refine w_aload_n rfl rfl ?_
  obtain ⟨g1, H⟩ := H
  refine c_getr rfl rfl rfl g1 ?_
  refine w_iload_n rfl rfl ?_
  obtain ⟨g2, H⟩ := H
  refine c_virt (p := (fR s a0 1)) (as := [vi a2]) (r := []) rfl rfl rfl rfl rfl rfl g2 (wc_mono H (Nat.le_refl _) ?_)
  rintro _ s3 ⟨r4, rfl, H⟩
  show wk iv L h0 (d + 1) 32 8 [lr a0, li a1, li a2] [vr r4] s3 (qi F)
  refine w_astore_n rfl rfl ?_
  refine w_aload_n rfl rfl ?_
  refine c_nonnull rfl (fun h => ?_) (fun h => ?_)
  · replace H := H.1 h
    refine w_aload_n rfl rfl ?_
    refine w_iload_n rfl rfl ?_
    obtain ⟨g5, H⟩ := H
    refine c_virt (p := a0) (as := [vi a1]) (r := []) rfl rfl rfl rfl rfl rfl g5 (wc_mono H (Nat.le_refl _) ?_)
    rintro _ s6 ⟨r7, rfl, H⟩
    show wk iv L h0 (d + 1) 32 20 [lr a0, li a1, li a2, lr r4] [vi r7] s6 (qi F)
    refine w_if_ne rfl (fun h => ?_) (fun h => ?_)
    · replace H := H.1 h
      refine w_aload_n rfl rfl ?_
      obtain ⟨g8, H⟩ := H
      refine c_getr rfl rfl rfl g8 ?_
      refine w_iload_n rfl rfl ?_
      refine w_aload_n rfl rfl ?_
      obtain ⟨g9, H⟩ := H
      obtain ⟨g10, H⟩ := H
      obtain ⟨g11, H⟩ := H
      refine c_aast rfl rfl g9 g10 (by rcases g11 with e | e; exact Or.inl e; exact Or.inr ⟨e, by decide⟩) ?_
      refine w_iconst (n := 1) rfl rfl ?_
      exact w_iret rfl rfl ⟨_, rfl, H⟩
    · replace H := H.2 h
      refine w_aload_n rfl rfl ?_
      refine w_iconst (n := 2) rfl rfl ?_
      obtain ⟨g12, H⟩ := H
      refine c_virt (p := a0) (as := [vi 2]) (r := []) rfl rfl rfl rfl rfl rfl g12 (wc_mono H (Nat.le_refl _) ?_)
      rintro _ s13 ⟨r14, rfl, H⟩
      show wk iv L h0 (d + 1) 32 28 [lr a0, li a1, li a2, lr r4] [vi r14] s13 (qi F)
      exact w_iret rfl rfl ⟨_, rfl, H⟩
  · replace H := H.2 h
    refine w_iconst (n := (-1)) rfl rfl ?_
    exact w_iret rfl rfl ⟨_, rfl, H⟩

/-- HoleDesk.boxed(II)I -/
theorem C33 {iv : List (Int × Int)} {L : Nat} {h0 : MH} {d : Nat} {s : SC} {a0 : Nat} {a1 : Int} {a2 : Int} {F : Int → SC → Prop} (H : ((a2 = 1 → (kl s a0 = 1) ∧ ck iv L h0 d 46 [vr a0, vi a1] s (qi fun r3 s2 => ((r3 ≠ 0 → (kl s2 a0 = 1) ∧ (kl s2 (fR s2 a0 10) = 103) ∧ (0 ≤ a1 ∧ a1 < le s2 (fR s2 a0 10)) ∧ ((aR s2 (fR s2 a0 10) a1 ≠ 2 → (kl s2 (aR s2 (fR s2 a0 10) a1) = 5) ∧ ((fI s2 (aR s2 (fR s2 a0 10) a1) 1 = a2 → F 1 (uI s2 a0 13 (fI s2 (aR s2 (fR s2 a0 10) a1) 4))) ∧ (fI s2 (aR s2 (fR s2 a0 10) a1) 1 ≠ a2 → ck iv L h0 d 47 [vr a0, vi 3] s2 (qi fun r9 s8 => F r9 s8)))) ∧ (aR s2 (fR s2 a0 10) a1 = 2 → ck iv L h0 d 47 [vr a0, vi 1] s2 (qi fun r11 s10 => F r11 s10)))) ∧ (r3 = 0 → (kl s2 a0 = 1) ∧ ck iv L h0 d 47 [vr a0, vi 2] s2 (qi fun r14 s13 => F r14 s13))))) ∧ (a2 ≠ 1 → ((a2 = 3 → (kl s a0 = 1) ∧ ck iv L h0 d 46 [vr a0, vi a1] s (qi fun r17 s16 => ((r17 ≠ 0 → (kl s16 a0 = 1) ∧ (kl s16 (fR s16 a0 10) = 103) ∧ (0 ≤ a1 ∧ a1 < le s16 (fR s16 a0 10)) ∧ ((aR s16 (fR s16 a0 10) a1 ≠ 2 → (kl s16 (aR s16 (fR s16 a0 10) a1) = 5) ∧ ((fI s16 (aR s16 (fR s16 a0 10) a1) 1 = a2 → F 1 (uI s16 a0 13 (fI s16 (aR s16 (fR s16 a0 10) a1) 4))) ∧ (fI s16 (aR s16 (fR s16 a0 10) a1) 1 ≠ a2 → ck iv L h0 d 47 [vr a0, vi 3] s16 (qi fun r23 s22 => F r23 s22)))) ∧ (aR s16 (fR s16 a0 10) a1 = 2 → ck iv L h0 d 47 [vr a0, vi 1] s16 (qi fun r25 s24 => F r25 s24)))) ∧ (r17 = 0 → (kl s16 a0 = 1) ∧ ck iv L h0 d 47 [vr a0, vi 2] s16 (qi fun r28 s27 => F r28 s27))))) ∧ (a2 ≠ 3 → F (-1) s))))) : ck iv L h0 (d + 1) 33 [vr a0, vi a1, vi a2] s (qi F) := by
  show wk iv L h0 (d + 1) 33 0 [lr a0, li a1, li a2] [] s (qi F)
  refine w_iload_n rfl rfl ?_
  refine w_iconst (n := 1) rfl rfl ?_
  refine w_icmp_eq rfl (fun h => ?_) (fun h => ?_)
  · replace H := H.1 h
    refine w_aload_n rfl rfl ?_
    refine w_iload_n rfl rfl ?_
    obtain ⟨g1, H⟩ := H
    refine c_virt (p := a0) (as := [vi a1]) (r := []) rfl rfl rfl rfl rfl rfl g1 (wc_mono H (Nat.le_refl _) ?_)
    rintro _ s2 ⟨r3, rfl, H⟩
    show wk iv L h0 (d + 1) 33 17 [lr a0, li a1, li a2] [vi r3] s2 (qi F)
    refine w_if_ne rfl (fun h => ?_) (fun h => ?_)
    · replace H := H.1 h
      refine w_aload_n rfl rfl ?_
      obtain ⟨g4, H⟩ := H
      refine c_getr rfl rfl rfl g4 ?_
      refine w_iload_n rfl rfl ?_
      obtain ⟨g5, H⟩ := H
      obtain ⟨g6, H⟩ := H
      refine c_aald (t := 3) rfl ⟨g5, by decide, by decide⟩ g6 ?_
      refine w_astore_n rfl rfl ?_
      refine w_aload_n rfl rfl ?_
      refine c_nonnull rfl (fun h => ?_) (fun h => ?_)
      · replace H := H.1 h
        refine w_aload_n rfl rfl ?_
        obtain ⟨g7, H⟩ := H
        refine c_get rfl rfl rfl g7 ?_
        refine w_iload_n rfl rfl ?_
        refine w_icmp_eq rfl (fun h => ?_) (fun h => ?_)
        · replace H := H.1 h
          refine w_aload_n rfl rfl ?_
          refine w_aload_n rfl rfl ?_
          refine c_get rfl rfl rfl g7 ?_
          refine c_put rfl rfl rfl rfl g4 ?_
          refine w_iconst (n := 1) rfl rfl ?_
          exact w_iret rfl rfl ⟨_, rfl, H⟩
        · replace H := H.2 h
          refine w_aload_n rfl rfl ?_
          refine w_iconst (n := 3) rfl rfl ?_
          refine c_virt (p := a0) (as := [vi 3]) (r := []) rfl rfl rfl rfl rfl rfl g4 (wc_mono H (Nat.le_refl _) ?_)
          rintro _ s8 ⟨r9, rfl, H⟩
          show wk iv L h0 (d + 1) 33 56 [lr a0, li a1, li a2, lr (aR s2 (fR s2 a0 10) a1)] [vi r9] s8 (qi F)
          exact w_iret rfl rfl ⟨_, rfl, H⟩
      · replace H := H.2 h
        refine w_aload_n rfl rfl ?_
        refine w_iconst (n := 1) rfl rfl ?_
        refine c_virt (p := a0) (as := [vi 1]) (r := []) rfl rfl rfl rfl rfl rfl g4 (wc_mono H (Nat.le_refl _) ?_)
        rintro _ s10 ⟨r11, rfl, H⟩
        show wk iv L h0 (d + 1) 33 42 [lr a0, li a1, li a2, lr (aR s2 (fR s2 a0 10) a1)] [vi r11] s10 (qi F)
        exact w_iret rfl rfl ⟨_, rfl, H⟩
    · replace H := H.2 h
      refine w_aload_n rfl rfl ?_
      refine w_iconst (n := 2) rfl rfl ?_
      obtain ⟨g12, H⟩ := H
      refine c_virt (p := a0) (as := [vi 2]) (r := []) rfl rfl rfl rfl rfl rfl g12 (wc_mono H (Nat.le_refl _) ?_)
      rintro _ s13 ⟨r14, rfl, H⟩
      show wk iv L h0 (d + 1) 33 25 [lr a0, li a1, li a2] [vi r14] s13 (qi F)
      exact w_iret rfl rfl ⟨_, rfl, H⟩
  · replace H := H.2 h
    refine w_iload_n rfl rfl ?_
    refine w_iconst (n := 3) rfl rfl ?_
    refine w_icmp_eq rfl (fun h => ?_) (fun h => ?_)
    · replace H := H.1 h
      refine w_aload_n rfl rfl ?_
      refine w_iload_n rfl rfl ?_
      obtain ⟨g15, H⟩ := H
      refine c_virt (p := a0) (as := [vi a1]) (r := []) rfl rfl rfl rfl rfl rfl g15 (wc_mono H (Nat.le_refl _) ?_)
      rintro _ s16 ⟨r17, rfl, H⟩
      show wk iv L h0 (d + 1) 33 17 [lr a0, li a1, li a2] [vi r17] s16 (qi F)
      refine w_if_ne rfl (fun h => ?_) (fun h => ?_)
      · replace H := H.1 h
        refine w_aload_n rfl rfl ?_
        obtain ⟨g18, H⟩ := H
        refine c_getr rfl rfl rfl g18 ?_
        refine w_iload_n rfl rfl ?_
        obtain ⟨g19, H⟩ := H
        obtain ⟨g20, H⟩ := H
        refine c_aald (t := 3) rfl ⟨g19, by decide, by decide⟩ g20 ?_
        refine w_astore_n rfl rfl ?_
        refine w_aload_n rfl rfl ?_
        refine c_nonnull rfl (fun h => ?_) (fun h => ?_)
        · replace H := H.1 h
          refine w_aload_n rfl rfl ?_
          obtain ⟨g21, H⟩ := H
          refine c_get rfl rfl rfl g21 ?_
          refine w_iload_n rfl rfl ?_
          refine w_icmp_eq rfl (fun h => ?_) (fun h => ?_)
          · replace H := H.1 h
            refine w_aload_n rfl rfl ?_
            refine w_aload_n rfl rfl ?_
            refine c_get rfl rfl rfl g21 ?_
            refine c_put rfl rfl rfl rfl g18 ?_
            refine w_iconst (n := 1) rfl rfl ?_
            exact w_iret rfl rfl ⟨_, rfl, H⟩
          · replace H := H.2 h
            refine w_aload_n rfl rfl ?_
            refine w_iconst (n := 3) rfl rfl ?_
            refine c_virt (p := a0) (as := [vi 3]) (r := []) rfl rfl rfl rfl rfl rfl g18 (wc_mono H (Nat.le_refl _) ?_)
            rintro _ s22 ⟨r23, rfl, H⟩
            show wk iv L h0 (d + 1) 33 56 [lr a0, li a1, li a2, lr (aR s16 (fR s16 a0 10) a1)] [vi r23] s22 (qi F)
            exact w_iret rfl rfl ⟨_, rfl, H⟩
        · replace H := H.2 h
          refine w_aload_n rfl rfl ?_
          refine w_iconst (n := 1) rfl rfl ?_
          refine c_virt (p := a0) (as := [vi 1]) (r := []) rfl rfl rfl rfl rfl rfl g18 (wc_mono H (Nat.le_refl _) ?_)
          rintro _ s24 ⟨r25, rfl, H⟩
          show wk iv L h0 (d + 1) 33 42 [lr a0, li a1, li a2, lr (aR s16 (fR s16 a0 10) a1)] [vi r25] s24 (qi F)
          exact w_iret rfl rfl ⟨_, rfl, H⟩
      · replace H := H.2 h
        refine w_aload_n rfl rfl ?_
        refine w_iconst (n := 2) rfl rfl ?_
        obtain ⟨g26, H⟩ := H
        refine c_virt (p := a0) (as := [vi 2]) (r := []) rfl rfl rfl rfl rfl rfl g26 (wc_mono H (Nat.le_refl _) ?_)
        rintro _ s27 ⟨r28, rfl, H⟩
        show wk iv L h0 (d + 1) 33 25 [lr a0, li a1, li a2] [vi r28] s27 (qi F)
        exact w_iret rfl rfl ⟨_, rfl, H⟩
    · replace H := H.2 h
      refine w_iconst (n := (-1)) rfl rfl ?_
      exact w_iret rfl rfl ⟨_, rfl, H⟩

/-- HoleDesk.share(II)I -/
theorem C34 {iv : List (Int × Int)} {L : Nat} {h0 : MH} {d : Nat} {s : SC} {a0 : Nat} {a1 : Int} {a2 : Int} {F : Int → SC → Prop} (H : (kl s a0 = 1) ∧ ck iv L h0 d 46 [vr a0, vi a1] s (qi fun r3 s2 => ((r3 = 0 → (kl s2 a0 = 1) ∧ ck iv L h0 d 47 [vr a0, vi 2] s2 (qi fun r6 s5 => F r6 s5)) ∧ (r3 ≠ 0 → (kl s2 a0 = 1) ∧ ck iv L h0 d 46 [vr a0, vi a2] s2 (qi fun r9 s8 => ((r9 ≠ 0 → (kl s8 a0 = 1) ∧ (kl s8 (fR s8 a0 10) = 103) ∧ (0 ≤ a1 ∧ a1 < le s8 (fR s8 a0 10)) ∧ (0 ≤ a2 ∧ a2 < le s8 (fR s8 a0 10)) ∧ ((aR s8 (fR s8 a0 10) a1 = 2 → ck iv L h0 d 47 [vr a0, vi 1] s8 (qi fun r15 s14 => F r15 s14)) ∧ (aR s8 (fR s8 a0 10) a1 ≠ 2 → ((aR s8 (fR s8 a0 10) a2 ≠ 2 → (kl s8 (aR s8 (fR s8 a0 10) a1) = 5) ∧ ((fI s8 (aR s8 (fR s8 a0 10) a1) 1 ≠ 1 → ck iv L h0 d 47 [vr a0, vi 3] s8 (qi fun r18 s17 => F r18 s17)) ∧ (fI s8 (aR s8 (fR s8 a0 10) a1) 1 = 1 → (kl s8 (aR s8 (fR s8 a0 10) a2) = 5) ∧ ((fI s8 (aR s8 (fR s8 a0 10) a2) 1 = 1 → ((fI s8 (aR s8 (fR s8 a0 10) a2) 4 ≠ 0 → (inL (1000 * (fI s8 (aR s8 (fR s8 a0 10) a1) 4))) ∧ (inL (fI s8 (aR s8 (fR s8 a0 10) a2) 4)) ∧ (fI s8 (aR s8 (fR s8 a0 10) a2) 4 ≠ 0) ∧ (inL ((1000 * (fI s8 (aR s8 (fR s8 a0 10) a1) 4)).tdiv (fI s8 (aR s8 (fR s8 a0 10) a2) 4))) ∧ F 1 (uI s8 a0 13 (w32 ((1000 * (fI s8 (aR s8 (fR s8 a0 10) a1) 4)).tdiv (fI s8 (aR s8 (fR s8 a0 10) a2) 4))))) ∧ (fI s8 (aR s8 (fR s8 a0 10) a2) 4 = 0 → ck iv L h0 d 47 [vr a0, vi 4] s8 (qi fun r25 s24 => F r25 s24)))) ∧ (fI s8 (aR s8 (fR s8 a0 10) a2) 1 ≠ 1 → ck iv L h0 d 47 [vr a0, vi 3] s8 (qi fun r27 s26 => F r27 s26)))))) ∧ (aR s8 (fR s8 a0 10) a2 = 2 → ck iv L h0 d 47 [vr a0, vi 1] s8 (qi fun r29 s28 => F r29 s28)))))) ∧ (r9 = 0 → (kl s8 a0 = 1) ∧ ck iv L h0 d 47 [vr a0, vi 2] s8 (qi fun r32 s31 => F r32 s31)))))))) : ck iv L h0 (d + 1) 34 [vr a0, vi a1, vi a2] s (qi F) := by
  show wk iv L h0 (d + 1) 34 0 [lr a0, li a1, li a2] [] s (qi F)
  refine w_aload_n rfl rfl ?_
  refine w_iload_n rfl rfl ?_
  obtain ⟨g1, H⟩ := H
  refine c_virt (p := a0) (as := [vi a1]) (r := []) rfl rfl rfl rfl rfl rfl g1 (wc_mono H (Nat.le_refl _) ?_)
  rintro _ s2 ⟨r3, rfl, H⟩
  show wk iv L h0 (d + 1) 34 5 [lr a0, li a1, li a2] [vi r3] s2 (qi F)
  refine w_if_eq rfl (fun h => ?_) (fun h => ?_)
  · replace H := H.1 h
    refine w_aload_n rfl rfl ?_
    refine w_iconst (n := 2) rfl rfl ?_
    obtain ⟨g4, H⟩ := H
    refine c_virt (p := a0) (as := [vi 2]) (r := []) rfl rfl rfl rfl rfl rfl g4 (wc_mono H (Nat.le_refl _) ?_)
    rintro _ s5 ⟨r6, rfl, H⟩
    show wk iv L h0 (d + 1) 34 21 [lr a0, li a1, li a2] [vi r6] s5 (qi F)
    exact w_iret rfl rfl ⟨_, rfl, H⟩
  · replace H := H.2 h
    refine w_aload_n rfl rfl ?_
    refine w_iload_n rfl rfl ?_
    obtain ⟨g7, H⟩ := H
    refine c_virt (p := a0) (as := [vi a2]) (r := []) rfl rfl rfl rfl rfl rfl g7 (wc_mono H (Nat.le_refl _) ?_)
    rintro _ s8 ⟨r9, rfl, H⟩
    show wk iv L h0 (d + 1) 34 13 [lr a0, li a1, li a2] [vi r9] s8 (qi F)
    refine w_if_ne rfl (fun h => ?_) (fun h => ?_)
    · replace H := H.1 h
      refine w_aload_n rfl rfl ?_
      obtain ⟨g10, H⟩ := H
      refine c_getr rfl rfl rfl g10 ?_
      refine w_iload_n rfl rfl ?_
      obtain ⟨g11, H⟩ := H
      obtain ⟨g12, H⟩ := H
      refine c_aald (t := 3) rfl ⟨g11, by decide, by decide⟩ g12 ?_
      refine w_astore_n rfl rfl ?_
      refine w_aload_n rfl rfl ?_
      refine c_getr rfl rfl rfl g10 ?_
      refine w_iload_n rfl rfl ?_
      obtain ⟨g13, H⟩ := H
      refine c_aald (t := 3) rfl ⟨g11, by decide, by decide⟩ g13 ?_
      refine w_astore rfl rfl ?_
      refine w_aload_n rfl rfl ?_
      refine c_null rfl (fun h => ?_) (fun h => ?_)
      · replace H := H.1 h
        refine w_aload_n rfl rfl ?_
        refine w_iconst (n := 1) rfl rfl ?_
        refine c_virt (p := a0) (as := [vi 1]) (r := []) rfl rfl rfl rfl rfl rfl g10 (wc_mono H (Nat.le_refl _) ?_)
        rintro _ s14 ⟨r15, rfl, H⟩
        show wk iv L h0 (d + 1) 34 51 [lr a0, li a1, li a2, lr (aR s8 (fR s8 a0 10) a1), lr (aR s8 (fR s8 a0 10) a2)] [vi r15] s14 (qi F)
        exact w_iret rfl rfl ⟨_, rfl, H⟩
      · replace H := H.2 h
        refine w_aload rfl rfl ?_
        refine c_nonnull rfl (fun h => ?_) (fun h => ?_)
        · replace H := H.1 h
          refine w_aload_n rfl rfl ?_
          obtain ⟨g16, H⟩ := H
          refine c_get rfl rfl rfl g16 ?_
          refine w_iconst (n := 1) rfl rfl ?_
          refine w_icmp_ne rfl (fun h => ?_) (fun h => ?_)
          · replace H := H.1 h
            refine w_aload_n rfl rfl ?_
            refine w_iconst (n := 3) rfl rfl ?_
            refine c_virt (p := a0) (as := [vi 3]) (r := []) rfl rfl rfl rfl rfl rfl g10 (wc_mono H (Nat.le_refl _) ?_)
            rintro _ s17 ⟨r18, rfl, H⟩
            show wk iv L h0 (d + 1) 34 74 [lr a0, li a1, li a2, lr (aR s8 (fR s8 a0 10) a1), lr (aR s8 (fR s8 a0 10) a2)] [vi r18] s17 (qi F)
            exact w_iret rfl rfl ⟨_, rfl, H⟩
          · replace H := H.2 h
            refine w_aload rfl rfl ?_
            obtain ⟨g19, H⟩ := H
            refine c_get rfl rfl rfl g19 ?_
            refine w_iconst (n := 1) rfl rfl ?_
            refine w_icmp_eq rfl (fun h => ?_) (fun h => ?_)
            · replace H := H.1 h
              refine w_aload rfl rfl ?_
              refine c_get rfl rfl rfl g19 ?_
              refine w_if_ne rfl (fun h => ?_) (fun h => ?_)
              · replace H := H.1 h
                refine w_aload_n rfl rfl ?_
                refine w_ldc2 (z := 1000) rfl rfl ?_
                refine w_aload_n rfl rfl ?_
                refine c_get rfl rfl rfl g16 ?_
                refine w_i2l rfl ?_
                refine w_lmul rfl ?_
                refine w_aload rfl rfl ?_
                refine c_get rfl rfl rfl g19 ?_
                refine w_i2l rfl ?_
                obtain ⟨g20, H⟩ := H
                obtain ⟨g21, H⟩ := H
                obtain ⟨g22, H⟩ := H
                obtain ⟨g23, H⟩ := H
                refine w_ldiv rfl g20 g21 g22 g23 ?_
                refine w_l2i rfl ?_
                refine c_put rfl rfl rfl rfl g10 ?_
                refine w_iconst (n := 1) rfl rfl ?_
                exact w_iret rfl rfl ⟨_, rfl, H⟩
              · replace H := H.2 h
                refine w_aload_n rfl rfl ?_
                refine w_iconst (n := 4) rfl rfl ?_
                refine c_virt (p := a0) (as := [vi 4]) (r := []) rfl rfl rfl rfl rfl rfl g10 (wc_mono H (Nat.le_refl _) ?_)
                rintro _ s24 ⟨r25, rfl, H⟩
                show wk iv L h0 (d + 1) 34 88 [lr a0, li a1, li a2, lr (aR s8 (fR s8 a0 10) a1), lr (aR s8 (fR s8 a0 10) a2)] [vi r25] s24 (qi F)
                exact w_iret rfl rfl ⟨_, rfl, H⟩
            · replace H := H.2 h
              refine w_aload_n rfl rfl ?_
              refine w_iconst (n := 3) rfl rfl ?_
              refine c_virt (p := a0) (as := [vi 3]) (r := []) rfl rfl rfl rfl rfl rfl g10 (wc_mono H (Nat.le_refl _) ?_)
              rintro _ s26 ⟨r27, rfl, H⟩
              show wk iv L h0 (d + 1) 34 74 [lr a0, li a1, li a2, lr (aR s8 (fR s8 a0 10) a1), lr (aR s8 (fR s8 a0 10) a2)] [vi r27] s26 (qi F)
              exact w_iret rfl rfl ⟨_, rfl, H⟩
        · replace H := H.2 h
          refine w_aload_n rfl rfl ?_
          refine w_iconst (n := 1) rfl rfl ?_
          refine c_virt (p := a0) (as := [vi 1]) (r := []) rfl rfl rfl rfl rfl rfl g10 (wc_mono H (Nat.le_refl _) ?_)
          rintro _ s28 ⟨r29, rfl, H⟩
          show wk iv L h0 (d + 1) 34 51 [lr a0, li a1, li a2, lr (aR s8 (fR s8 a0 10) a1), lr (aR s8 (fR s8 a0 10) a2)] [vi r29] s28 (qi F)
          exact w_iret rfl rfl ⟨_, rfl, H⟩
    · replace H := H.2 h
      refine w_aload_n rfl rfl ?_
      refine w_iconst (n := 2) rfl rfl ?_
      obtain ⟨g30, H⟩ := H
      refine c_virt (p := a0) (as := [vi 2]) (r := []) rfl rfl rfl rfl rfl rfl g30 (wc_mono H (Nat.le_refl _) ?_)
      rintro _ s31 ⟨r32, rfl, H⟩
      show wk iv L h0 (d + 1) 34 21 [lr a0, li a1, li a2] [vi r32] s31 (qi F)
      exact w_iret rfl rfl ⟨_, rfl, H⟩

/-- HoleDesk.asked()I -/
theorem C35 {iv : List (Int × Int)} {L : Nat} {h0 : MH} {d : Nat} {s : SC} {a0 : Nat} {F : Int → SC → Prop} (H : (kl s a0 = 1) ∧ F (fI s a0 13) s) : ck iv L h0 d 35 [vr a0] s (qi F) := by
  show wk iv L h0 d 35 0 [lr a0] [] s (qi F)
  refine w_aload_n rfl rfl ?_
  obtain ⟨g1, H⟩ := H
  refine c_get rfl rfl rfl g1 ?_
  exact w_iret rfl rfl ⟨_, rfl, H⟩

/-- HoleDesk.count(I)I -/
theorem C36 {iv : List (Int × Int)} {L : Nat} {h0 : MH} {d : Nat} {s : SC} {a0 : Nat} {a1 : Int} {F : Int → SC → Prop} (H : ((a1 = 0 → (kl s a0 = 1) ∧ (kl s (fR s a0 0) = 4) ∧ F (fI s (fR s a0 0) 4) s) ∧ (a1 = 1 → (kl s a0 = 1) ∧ (kl s (fR s a0 1) = 8) ∧ F (fI s (fR s a0 1) 4) s) ∧ (a1 = 2 → (kl s a0 = 1) ∧ (kl s (fR s a0 1) = 8) ∧ F (fI s (fR s a0 1) 7) s) ∧ (a1 = 3 → (kl s a0 = 1) ∧ ck iv L h0 d 49 [vr a0, vi 1] s (qi fun r9 s8 => F r9 s8)) ∧ (a1 = 4 → (kl s a0 = 1) ∧ ck iv L h0 d 49 [vr a0, vi 0] s (qi fun r12 s11 => F r12 s11)) ∧ (a1 = 5 → (kl s a0 = 1) ∧ ck iv L h0 d 50 [vr a0] s (qi fun r15 s14 => F r15 s14)) ∧ (a1 = 6 → (kl s a0 = 1) ∧ (kl s (fR s a0 3) = 11) ∧ ((fI s (fR s a0 3) 4 ≠ (-1) → F (fI s (fR s a0 3) 4) s) ∧ (fI s (fR s a0 3) 4 = (-1) → F (-9) s))) ∧ (a1 < 0 ∨ 6 < a1 → F (-1) s))) : ck iv L h0 (d + 1) 36 [vr a0, vi a1] s (qi F) := by
  show wk iv L h0 (d + 1) 36 0 [lr a0, li a1] [] s (qi F)
  refine w_iload_n rfl rfl ?_
  have J44 : (a1 = 0) → wk iv L h0 (d + 1) 36 44 [lr a0, li a1] [] s (qi F) := fun h => by
    replace H := H.1 h
    refine w_aload_n rfl rfl ?_
    obtain ⟨g1, H⟩ := H
    refine c_getr rfl rfl rfl g1 ?_
    obtain ⟨g2, H⟩ := H
    refine c_get rfl rfl rfl g2 ?_
    exact w_iret rfl rfl ⟨_, rfl, H⟩
  have J52 : (a1 = 1) → wk iv L h0 (d + 1) 36 52 [lr a0, li a1] [] s (qi F) := fun h => by
    replace H := H.2.1 h
    refine w_aload_n rfl rfl ?_
    obtain ⟨g3, H⟩ := H
    refine c_getr rfl rfl rfl g3 ?_
    obtain ⟨g4, H⟩ := H
    refine c_get rfl rfl rfl g4 ?_
    exact w_iret rfl rfl ⟨_, rfl, H⟩
  have J60 : (a1 = 2) → wk iv L h0 (d + 1) 36 60 [lr a0, li a1] [] s (qi F) := fun h => by
    replace H := H.2.2.1 h
    refine w_aload_n rfl rfl ?_
    obtain ⟨g5, H⟩ := H
    refine c_getr rfl rfl rfl g5 ?_
    obtain ⟨g6, H⟩ := H
    refine c_get rfl rfl rfl g6 ?_
    exact w_iret rfl rfl ⟨_, rfl, H⟩
  have J68 : (a1 = 3) → wk iv L h0 (d + 1) 36 68 [lr a0, li a1] [] s (qi F) := fun h => by
    replace H := H.2.2.2.1 h
    refine w_aload_n rfl rfl ?_
    refine w_iconst (n := 1) rfl rfl ?_
    obtain ⟨g7, H⟩ := H
    refine c_virt (p := a0) (as := [vi 1]) (r := []) rfl rfl rfl rfl rfl rfl g7 (wc_mono H (Nat.le_refl _) ?_)
    rintro _ s8 ⟨r9, rfl, H⟩
    show wk iv L h0 (d + 1) 36 73 [lr a0, li a1] [vi r9] s8 (qi F)
    exact w_iret rfl rfl ⟨_, rfl, H⟩
  have J74 : (a1 = 4) → wk iv L h0 (d + 1) 36 74 [lr a0, li a1] [] s (qi F) := fun h => by
    replace H := H.2.2.2.2.1 h
    refine w_aload_n rfl rfl ?_
    refine w_iconst (n := 0) rfl rfl ?_
    obtain ⟨g10, H⟩ := H
    refine c_virt (p := a0) (as := [vi 0]) (r := []) rfl rfl rfl rfl rfl rfl g10 (wc_mono H (Nat.le_refl _) ?_)
    rintro _ s11 ⟨r12, rfl, H⟩
    show wk iv L h0 (d + 1) 36 79 [lr a0, li a1] [vi r12] s11 (qi F)
    exact w_iret rfl rfl ⟨_, rfl, H⟩
  have J80 : (a1 = 5) → wk iv L h0 (d + 1) 36 80 [lr a0, li a1] [] s (qi F) := fun h => by
    replace H := H.2.2.2.2.2.1 h
    refine w_aload_n rfl rfl ?_
    obtain ⟨g13, H⟩ := H
    refine c_virt (p := a0) (as := []) (r := []) rfl rfl rfl rfl rfl rfl g13 (wc_mono H (Nat.le_refl _) ?_)
    rintro _ s14 ⟨r15, rfl, H⟩
    show wk iv L h0 (d + 1) 36 84 [lr a0, li a1] [vi r15] s14 (qi F)
    exact w_iret rfl rfl ⟨_, rfl, H⟩
  have J85 : (a1 = 6) → wk iv L h0 (d + 1) 36 85 [lr a0, li a1] [] s (qi F) := fun h => by
    replace H := H.2.2.2.2.2.2.1 h
    refine w_aload_n rfl rfl ?_
    obtain ⟨g16, H⟩ := H
    refine c_getr rfl rfl rfl g16 ?_
    obtain ⟨g17, H⟩ := H
    refine c_get rfl rfl rfl g17 ?_
    refine w_iconst (n := (-1)) rfl rfl ?_
    refine w_icmp_ne rfl (fun h => ?_) (fun h => ?_)
    · replace H := H.1 h
      refine w_aload_n rfl rfl ?_
      refine c_getr rfl rfl rfl g16 ?_
      refine c_get rfl rfl rfl g17 ?_
      exact w_iret rfl rfl ⟨_, rfl, H⟩
    · replace H := H.2 h
      refine w_bipush (n := (-9)) rfl rfl rfl ?_
      refine w_goto rfl ?_
      exact w_iret rfl rfl ⟨_, rfl, H⟩
  have J109 : (a1 < 0 ∨ 6 < a1) → wk iv L h0 (d + 1) 36 109 [lr a0, li a1] [] s (qi F) := fun h => by
    replace H := H.2.2.2.2.2.2.2 h
    refine w_iconst (n := (-1)) rfl rfl ?_
    exact w_iret rfl rfl ⟨_, rfl, H⟩
  refine w_tsw (td := 109) (ts := [44, 52, 60, 68, 74, 80, 85]) rfl rfl rfl rfl rfl rfl (fun h => J109 (by omega)) ?_
  exact swA_c (fun h => J44 (by omega)) (swA_c (fun h => J52 (by omega)) (swA_c (fun h => J60 (by omega)) (swA_c (fun h => J68 (by omega)) (swA_c (fun h => J74 (by omega)) (swA_c (fun h => J80 (by omega)) (swA_c (fun h => J85 (by omega)) (swA_n)))))))

/-- HoleDesk.finding()I -/
theorem C37 {iv : List (Int × Int)} {L : Nat} {h0 : MH} {d : Nat} {s : SC} {a0 : Nat} {F : Int → SC → Prop} (H : (kl s a0 = 1) ∧ F (fI s a0 14) s) : ck iv L h0 d 37 [vr a0] s (qi F) := by
  show wk iv L h0 d 37 0 [lr a0] [] s (qi F)
  refine w_aload_n rfl rfl ?_
  obtain ⟨g1, H⟩ := H
  refine c_get rfl rfl rfl g1 ?_
  exact w_iret rfl rfl ⟨_, rfl, H⟩

/-- HoleDesk.findings(I)I -/
theorem C38 {iv : List (Int × Int)} {L : Nat} {h0 : MH} {d : Nat} {s : SC} {a0 : Nat} {a1 : Int} {F : Int → SC → Prop} (H : ((a1 < 1 → F (-1) s) ∧ (1 ≤ a1 → ((a1 ≤ 5 → (kl s a0 = 1) ∧ (kl s (fR s a0 11) = 100) ∧ (0 ≤ a1 ∧ a1 < le s (fR s a0 11)) ∧ F (aI s (fR s a0 11) a1) s) ∧ (5 < a1 → F (-1) s))))) : ck iv L h0 d 38 [vr a0, vi a1] s (qi F) := by
  show wk iv L h0 d 38 0 [lr a0, li a1] [] s (qi F)
  refine w_iload_n rfl rfl ?_
  refine w_iconst (n := 1) rfl rfl ?_
  refine w_icmp_lt rfl (fun h => ?_) (fun h => ?_)
  · replace H := H.1 h
    refine w_iconst (n := (-1)) rfl rfl ?_
    refine w_goto rfl ?_
    exact w_iret rfl rfl ⟨_, rfl, H⟩
  · replace H := H.2 h
    refine w_iload_n rfl rfl ?_
    refine w_iconst (n := 5) rfl rfl ?_
    refine w_icmp_le rfl (fun h => ?_) (fun h => ?_)
    · replace H := H.1 h
      refine w_aload_n rfl rfl ?_
      obtain ⟨g1, H⟩ := H
      refine c_getr rfl rfl rfl g1 ?_
      refine w_iload_n rfl rfl ?_
      obtain ⟨g2, H⟩ := H
      obtain ⟨g3, H⟩ := H
      refine c_ald rfl g2 g3 ?_
      exact w_iret rfl rfl ⟨_, rfl, H⟩
    · replace H := H.2 h
      refine w_iconst (n := (-1)) rfl rfl ?_
      refine w_goto rfl ?_
      exact w_iret rfl rfl ⟨_, rfl, H⟩

/-- HoleDesk.digest()J -/
theorem C39 {iv : List (Int × Int)} {L : Nat} {h0 : MH} {d : Nat} {s : SC} {a0 : Nat} {F : Int → SC → Prop} (H : wk iv L h0 d 39 6 [lr a0, ll 17, ln, li 0] [] s (ql F)) : ck iv L h0 d 39 [vr a0] s (ql F) := by
  show wk iv L h0 d 39 0 [lr a0] [] s (ql F)
  refine w_ldc2 (z := 17) rfl rfl ?_
  refine w_lstore_n rfl rfl ?_
  refine w_iconst (n := 0) rfl rfl ?_
  refine w_istore_n rfl rfl ?_
  exact wp_ls (sl_s (sl_s (sl_n (sl_s (sl_0))))) H

/-- HoleDesk.digest()J at 6 -/
theorem C39_6 {iv : List (Int × Int)} {L : Nat} {h0 : MH} {d : Nat} {s : SC} {l0 : Nat} {l1 : Int} {l3 : Int} {F : Int → SC → Prop} (H : (kl s l0 = 1) ∧ (kl s (fR s l0 1) = 8) ∧ ((fI s (fR s l0 1) 3 ≤ l3 → (kl s (fR s (fR s l0 1) 2) = 5) ∧ F ((31 * ((31 * l1) + (fI s (fR s (fR s l0 1) 2) 0))) + (fI s (fR s l0 1) 4)) s) ∧ (l3 < fI s (fR s l0 1) 3 → (kl s (fR s (fR s l0 1) 0) = 103) ∧ (0 ≤ l3 ∧ l3 < le s (fR s (fR s l0 1) 0)) ∧ (kl s (aR s (fR s (fR s l0 1) 0) l3) = 5) ∧ (-2147483648 ≤ l3 + 1 ∧ l3 + 1 ≤ 2147483647) ∧ wk iv L h0 d 39 6 [lr l0, ll ((31 * ((31 * ((31 * ((31 * ((31 * l1) + (fI s (aR s (fR s (fR s l0 1) 0) l3) 0))) + (fI s (aR s (fR s (fR s l0 1) 0) l3) 1))) + (fI s (aR s (fR s (fR s l0 1) 0) l3) 4))) + (fI s (aR s (fR s (fR s l0 1) 0) l3) 2))) + (fI s (aR s (fR s (fR s l0 1) 0) l3) 10)), ln, li (l3 + 1)] [] s (ql F)))) : wk iv L h0 d 39 6 [lr l0, ll l1, ln, li l3] [] s (ql F) := by
  refine w_iload_n rfl rfl ?_
  refine w_aload_n rfl rfl ?_
  obtain ⟨g1, H⟩ := H
  refine c_getr rfl rfl rfl g1 ?_
  obtain ⟨g2, H⟩ := H
  refine c_get rfl rfl rfl g2 ?_
  refine w_icmp_ge rfl (fun h => ?_) (fun h => ?_)
  · replace H := H.1 h
    refine w_ldc2 (z := 31) rfl rfl ?_
    refine w_lload_n rfl rfl ?_
    refine w_lmul rfl ?_
    refine w_aload_n rfl rfl ?_
    refine c_getr rfl rfl rfl g1 ?_
    refine c_getr rfl rfl rfl g2 ?_
    obtain ⟨g3, H⟩ := H
    refine c_get rfl rfl rfl g3 ?_
    refine w_i2l rfl ?_
    refine w_ladd rfl ?_
    refine w_lstore_n rfl rfl ?_
    refine w_ldc2 (z := 31) rfl rfl ?_
    refine w_lload_n rfl rfl ?_
    refine w_lmul rfl ?_
    refine w_aload_n rfl rfl ?_
    refine c_getr rfl rfl rfl g1 ?_
    refine c_get rfl rfl rfl g2 ?_
    refine w_i2l rfl ?_
    refine w_ladd rfl ?_
    exact w_lret rfl rfl ⟨_, rfl, H⟩
  · replace H := H.2 h
    refine w_aload_n rfl rfl ?_
    refine c_getr rfl rfl rfl g1 ?_
    refine c_getr rfl rfl rfl g2 ?_
    refine w_iload_n rfl rfl ?_
    obtain ⟨g4, H⟩ := H
    obtain ⟨g5, H⟩ := H
    refine c_aald (t := 3) rfl ⟨g4, by decide, by decide⟩ g5 ?_
    refine w_astore rfl rfl ?_
    refine w_ldc2 (z := 31) rfl rfl ?_
    refine w_lload_n rfl rfl ?_
    refine w_lmul rfl ?_
    refine w_aload rfl rfl ?_
    obtain ⟨g6, H⟩ := H
    refine c_get rfl rfl rfl g6 ?_
    refine w_i2l rfl ?_
    refine w_ladd rfl ?_
    refine w_lstore_n rfl rfl ?_
    refine w_ldc2 (z := 31) rfl rfl ?_
    refine w_lload_n rfl rfl ?_
    refine w_lmul rfl ?_
    refine w_aload rfl rfl ?_
    refine c_get rfl rfl rfl g6 ?_
    refine w_i2l rfl ?_
    refine w_ladd rfl ?_
    refine w_lstore_n rfl rfl ?_
    refine w_ldc2 (z := 31) rfl rfl ?_
    refine w_lload_n rfl rfl ?_
    refine w_lmul rfl ?_
    refine w_aload rfl rfl ?_
    refine c_get rfl rfl rfl g6 ?_
    refine w_i2l rfl ?_
    refine w_ladd rfl ?_
    refine w_lstore_n rfl rfl ?_
    refine w_ldc2 (z := 31) rfl rfl ?_
    refine w_lload_n rfl rfl ?_
    refine w_lmul rfl ?_
    refine w_aload rfl rfl ?_
    refine c_get rfl rfl rfl g6 ?_
    refine w_i2l rfl ?_
    refine w_ladd rfl ?_
    refine w_lstore_n rfl rfl ?_
    refine w_ldc2 (z := 31) rfl rfl ?_
    refine w_lload_n rfl rfl ?_
    refine w_lmul rfl ?_
    refine w_aload rfl rfl ?_
    refine c_get rfl rfl rfl g6 ?_
    refine w_i2l rfl ?_
    refine w_ladd rfl ?_
    refine w_lstore_n rfl rfl ?_
    obtain ⟨g7, H⟩ := H
    refine w_iinc rfl rfl rfl g7 ?_
    refine w_goto rfl ?_
    exact wp_ls (sl_s (sl_s (sl_n (sl_s (sl_0))))) H

/-- HoleDesk.isLetter(I)Z -/
theorem C40 {iv : List (Int × Int)} {L : Nat} {h0 : MH} {d : Nat} {s : SC} {a1 : Int} {F : Int → SC → Prop} (H : ((a1 < 0 → F 0 s) ∧ (0 ≤ a1 → ((26 ≤ a1 → F 0 s) ∧ (a1 < 26 → F 1 s))))) : ck iv L h0 d 40 [vi a1] s (qi F) := by
  show wk iv L h0 d 40 0 [li a1] [] s (qi F)
  refine w_iload_n rfl rfl ?_
  refine w_if_lt rfl (fun h => ?_) (fun h => ?_)
  · replace H := H.1 h
    refine w_iconst (n := 0) rfl rfl ?_
    exact w_iretz rfl rfl (by decide) ⟨_, rfl, H⟩
  · replace H := H.2 h
    refine w_iload_n rfl rfl ?_
    refine w_bipush (n := 26) rfl rfl rfl ?_
    refine w_icmp_ge rfl (fun h => ?_) (fun h => ?_)
    · replace H := H.1 h
      refine w_iconst (n := 0) rfl rfl ?_
      exact w_iretz rfl rfl (by decide) ⟨_, rfl, H⟩
    · replace H := H.2 h
      refine w_iconst (n := 1) rfl rfl ?_
      refine w_goto rfl ?_
      exact w_iretz rfl rfl (by decide) ⟨_, rfl, H⟩

/-- HoleDesk.isPlace(I)Z -/
theorem C41 {iv : List (Int × Int)} {L : Nat} {h0 : MH} {d : Nat} {s : SC} {a1 : Int} {F : Int → SC → Prop} (H : ((a1 < 0 → F 0 s) ∧ (0 ≤ a1 → ((6 ≤ a1 → F 0 s) ∧ (a1 < 6 → F 1 s))))) : ck iv L h0 d 41 [vi a1] s (qi F) := by
  show wk iv L h0 d 41 0 [li a1] [] s (qi F)
  refine w_iload_n rfl rfl ?_
  refine w_if_lt rfl (fun h => ?_) (fun h => ?_)
  · replace H := H.1 h
    refine w_iconst (n := 0) rfl rfl ?_
    exact w_iretz rfl rfl (by decide) ⟨_, rfl, H⟩
  · replace H := H.2 h
    refine w_iload_n rfl rfl ?_
    refine w_bipush (n := 6) rfl rfl rfl ?_
    refine w_icmp_ge rfl (fun h => ?_) (fun h => ?_)
    · replace H := H.1 h
      refine w_iconst (n := 0) rfl rfl ?_
      exact w_iretz rfl rfl (by decide) ⟨_, rfl, H⟩
    · replace H := H.2 h
      refine w_iconst (n := 1) rfl rfl ?_
      refine w_goto rfl ?_
      exact w_iretz rfl rfl (by decide) ⟨_, rfl, H⟩

/-- HoleDesk.isStepLimit(I)Z -/
theorem C42 {iv : List (Int × Int)} {L : Nat} {h0 : MH} {d : Nat} {s : SC} {a1 : Int} {F : Int → SC → Prop} (H : ((a1 < 0 → F 0 s) ∧ (0 ≤ a1 → ((300 < a1 → F 0 s) ∧ (a1 ≤ 300 → F 1 s))))) : ck iv L h0 d 42 [vi a1] s (qi F) := by
  show wk iv L h0 d 42 0 [li a1] [] s (qi F)
  refine w_iload_n rfl rfl ?_
  refine w_if_lt rfl (fun h => ?_) (fun h => ?_)
  · replace H := H.1 h
    refine w_iconst (n := 0) rfl rfl ?_
    exact w_iretz rfl rfl (by decide) ⟨_, rfl, H⟩
  · replace H := H.2 h
    refine w_iload_n rfl rfl ?_
    refine w_sipush (n := 300) rfl rfl rfl ?_
    refine w_icmp_gt rfl (fun h => ?_) (fun h => ?_)
    · replace H := H.1 h
      refine w_iconst (n := 0) rfl rfl ?_
      exact w_iretz rfl rfl (by decide) ⟨_, rfl, H⟩
    · replace H := H.2 h
      refine w_iconst (n := 1) rfl rfl ?_
      refine w_goto rfl ?_
      exact w_iretz rfl rfl (by decide) ⟨_, rfl, H⟩

/-- HoleDesk.bearsNumber(I)Z -/
theorem C43 {iv : List (Int × Int)} {L : Nat} {h0 : MH} {d : Nat} {s : SC} {a1 : Int} {F : Int → SC → Prop} (H : ((a1 = 1 → F 1 s) ∧ (a1 ≠ 1 → ((a1 = 2 → F 1 s) ∧ (a1 ≠ 2 → ((a1 = 3 → F 1 s) ∧ (a1 ≠ 3 → ((a1 = 8 → F 1 s) ∧ (a1 ≠ 8 → ((a1 ≠ 10 → F 0 s) ∧ (a1 = 10 → F 1 s))))))))))) : ck iv L h0 d 43 [vi a1] s (qi F) := by
  show wk iv L h0 d 43 0 [li a1] [] s (qi F)
  refine w_iload_n rfl rfl ?_
  refine w_iconst (n := 1) rfl rfl ?_
  refine w_icmp_eq rfl (fun h => ?_) (fun h => ?_)
  · replace H := H.1 h
    refine w_iconst (n := 1) rfl rfl ?_
    refine w_goto rfl ?_
    exact w_iretz rfl rfl (by decide) ⟨_, rfl, H⟩
  · replace H := H.2 h
    refine w_iload_n rfl rfl ?_
    refine w_iconst (n := 2) rfl rfl ?_
    refine w_icmp_eq rfl (fun h => ?_) (fun h => ?_)
    · replace H := H.1 h
      refine w_iconst (n := 1) rfl rfl ?_
      refine w_goto rfl ?_
      exact w_iretz rfl rfl (by decide) ⟨_, rfl, H⟩
    · replace H := H.2 h
      refine w_iload_n rfl rfl ?_
      refine w_iconst (n := 3) rfl rfl ?_
      refine w_icmp_eq rfl (fun h => ?_) (fun h => ?_)
      · replace H := H.1 h
        refine w_iconst (n := 1) rfl rfl ?_
        refine w_goto rfl ?_
        exact w_iretz rfl rfl (by decide) ⟨_, rfl, H⟩
      · replace H := H.2 h
        refine w_iload_n rfl rfl ?_
        refine w_bipush (n := 8) rfl rfl rfl ?_
        refine w_icmp_eq rfl (fun h => ?_) (fun h => ?_)
        · replace H := H.1 h
          refine w_iconst (n := 1) rfl rfl ?_
          refine w_goto rfl ?_
          exact w_iretz rfl rfl (by decide) ⟨_, rfl, H⟩
        · replace H := H.2 h
          refine w_iload_n rfl rfl ?_
          refine w_bipush (n := 10) rfl rfl rfl ?_
          refine w_icmp_ne rfl (fun h => ?_) (fun h => ?_)
          · replace H := H.1 h
            refine w_iconst (n := 0) rfl rfl ?_
            exact w_iretz rfl rfl (by decide) ⟨_, rfl, H⟩
          · replace H := H.2 h
            refine w_iconst (n := 1) rfl rfl ?_
            refine w_goto rfl ?_
            exact w_iretz rfl rfl (by decide) ⟨_, rfl, H⟩

/-- HoleDesk.bearsKind(I)Z -/
theorem C44 {iv : List (Int × Int)} {L : Nat} {h0 : MH} {d : Nat} {s : SC} {a1 : Int} {F : Int → SC → Prop} (H : ((a1 = 8 → F 1 s) ∧ (a1 ≠ 8 → ((a1 ≠ 15 → F 0 s) ∧ (a1 = 15 → F 1 s))))) : ck iv L h0 d 44 [vi a1] s (qi F) := by
  show wk iv L h0 d 44 0 [li a1] [] s (qi F)
  refine w_iload_n rfl rfl ?_
  refine w_bipush (n := 8) rfl rfl rfl ?_
  refine w_icmp_eq rfl (fun h => ?_) (fun h => ?_)
  · replace H := H.1 h
    refine w_iconst (n := 1) rfl rfl ?_
    refine w_goto rfl ?_
    exact w_iretz rfl rfl (by decide) ⟨_, rfl, H⟩
  · replace H := H.2 h
    refine w_iload_n rfl rfl ?_
    refine w_bipush (n := 15) rfl rfl rfl ?_
    refine w_icmp_ne rfl (fun h => ?_) (fun h => ?_)
    · replace H := H.1 h
      refine w_iconst (n := 0) rfl rfl ?_
      exact w_iretz rfl rfl (by decide) ⟨_, rfl, H⟩
    · replace H := H.2 h
      refine w_iconst (n := 1) rfl rfl ?_
      refine w_goto rfl ?_
      exact w_iretz rfl rfl (by decide) ⟨_, rfl, H⟩

/-- HoleDesk.fits(II)Z -/
theorem C45 {iv : List (Int × Int)} {L : Nat} {h0 : MH} {d : Nat} {s : SC} {a1 : Int} {a2 : Int} {F : Int → SC → Prop} (H : ((a1 ≠ 2 → ((a1 = 1 → F 1 s) ∧ (a1 ≠ 1 → ck iv L h0 d 43 [vi a1] s (qi fun r2 s1 => ((r2 = 0 → F 1 s1) ∧ (r2 ≠ 0 → ck iv L h0 d 40 [vi a2] s1 (qi fun r4 s3 => ((r4 = 0 → F 0 s3) ∧ (r4 ≠ 0 → F 1 s3))))))))) ∧ (a1 = 2 → ((a2 = 0 → F 1 s) ∧ (a2 ≠ 0 → ((a2 ≠ 1 → F 0 s) ∧ (a2 = 1 → F 1 s))))))) : ck iv L h0 (d + 1) 45 [vi a1, vi a2] s (qi F) := by
  show wk iv L h0 (d + 1) 45 0 [li a1, li a2] [] s (qi F)
  refine w_iload_n rfl rfl ?_
  refine w_iconst (n := 2) rfl rfl ?_
  refine w_icmp_ne rfl (fun h => ?_) (fun h => ?_)
  · replace H := H.1 h
    refine w_iload_n rfl rfl ?_
    refine w_iconst (n := 1) rfl rfl ?_
    refine w_icmp_eq rfl (fun h => ?_) (fun h => ?_)
    · replace H := H.1 h
      refine w_iconst (n := 1) rfl rfl ?_
      refine w_goto rfl ?_
      exact w_iretz rfl rfl (by decide) ⟨_, rfl, H⟩
    · replace H := H.2 h
      refine w_iload_n rfl rfl ?_
      refine w_static (as := [vi a1]) (r := []) rfl rfl rfl rfl rfl (wc_mono H (Nat.le_refl _) ?_)
      rintro _ s1 ⟨r2, rfl, H⟩
      show wk iv L h0 (d + 1) 45 29 [li a1, li a2] [vi r2] s1 (qi F)
      refine w_if_eq rfl (fun h => ?_) (fun h => ?_)
      · replace H := H.1 h
        refine w_iconst (n := 1) rfl rfl ?_
        refine w_goto rfl ?_
        exact w_iretz rfl rfl (by decide) ⟨_, rfl, H⟩
      · replace H := H.2 h
        refine w_iload_n rfl rfl ?_
        refine w_static (as := [vi a2]) (r := []) rfl rfl rfl rfl rfl (wc_mono H (Nat.le_refl _) ?_)
        rintro _ s3 ⟨r4, rfl, H⟩
        show wk iv L h0 (d + 1) 45 36 [li a1, li a2] [vi r4] s3 (qi F)
        refine w_if_eq rfl (fun h => ?_) (fun h => ?_)
        · replace H := H.1 h
          refine w_iconst (n := 0) rfl rfl ?_
          exact w_iretz rfl rfl (by decide) ⟨_, rfl, H⟩
        · replace H := H.2 h
          refine w_iconst (n := 1) rfl rfl ?_
          refine w_goto rfl ?_
          exact w_iretz rfl rfl (by decide) ⟨_, rfl, H⟩
  · replace H := H.2 h
    refine w_iload_n rfl rfl ?_
    refine w_if_eq rfl (fun h => ?_) (fun h => ?_)
    · replace H := H.1 h
      refine w_iconst (n := 1) rfl rfl ?_
      refine w_goto rfl ?_
      exact w_iretz rfl rfl (by decide) ⟨_, rfl, H⟩
    · replace H := H.2 h
      refine w_iload_n rfl rfl ?_
      refine w_iconst (n := 1) rfl rfl ?_
      refine w_icmp_ne rfl (fun h => ?_) (fun h => ?_)
      · replace H := H.1 h
        refine w_iconst (n := 0) rfl rfl ?_
        exact w_iretz rfl rfl (by decide) ⟨_, rfl, H⟩
      · replace H := H.2 h
        refine w_iconst (n := 1) rfl rfl ?_
        refine w_goto rfl ?_
        exact w_iretz rfl rfl (by decide) ⟨_, rfl, H⟩

/-- HoleDesk.inBox(I)Z -/
theorem C46 {iv : List (Int × Int)} {L : Nat} {h0 : MH} {d : Nat} {s : SC} {a0 : Nat} {a1 : Int} {F : Int → SC → Prop} (H : ((a1 < 0 → F 0 s) ∧ (0 ≤ a1 → (kl s a0 = 1) ∧ ((fI s a0 12 ≤ a1 → F 0 s) ∧ (a1 < fI s a0 12 → F 1 s))))) : ck iv L h0 d 46 [vr a0, vi a1] s (qi F) := by
  show wk iv L h0 d 46 0 [lr a0, li a1] [] s (qi F)
  refine w_iload_n rfl rfl ?_
  refine w_if_lt rfl (fun h => ?_) (fun h => ?_)
  · replace H := H.1 h
    refine w_iconst (n := 0) rfl rfl ?_
    exact w_iretz rfl rfl (by decide) ⟨_, rfl, H⟩
  · replace H := H.2 h
    refine w_iload_n rfl rfl ?_
    refine w_aload_n rfl rfl ?_
    obtain ⟨g1, H⟩ := H
    refine c_get rfl rfl rfl g1 ?_
    refine w_icmp_ge rfl (fun h => ?_) (fun h => ?_)
    · replace H := H.1 h
      refine w_iconst (n := 0) rfl rfl ?_
      exact w_iretz rfl rfl (by decide) ⟨_, rfl, H⟩
    · replace H := H.2 h
      refine w_iconst (n := 1) rfl rfl ?_
      refine w_goto rfl ?_
      exact w_iretz rfl rfl (by decide) ⟨_, rfl, H⟩

/-- HoleDesk.refuse(I)I -/
theorem C47 {iv : List (Int × Int)} {L : Nat} {h0 : MH} {d : Nat} {s : SC} {a0 : Nat} {a1 : Int} {F : Int → SC → Prop} (H : (kl s a0 = 1) ∧ (kl s (fR s a0 11) = 100) ∧ (0 ≤ a1 ∧ a1 < le s (fR s a0 11)) ∧ (-2147483648 ≤ (aI s (fR s a0 11) a1) + 1 ∧ (aI s (fR s a0 11) a1) + 1 ≤ 2147483647) ∧ F (-3) (uA (uI s a0 14 a1) (fR s a0 11) a1 ((aI s (fR s a0 11) a1) + 1))) : ck iv L h0 d 47 [vr a0, vi a1] s (qi F) := by
  show wk iv L h0 d 47 0 [lr a0, li a1] [] s (qi F)
  refine w_aload_n rfl rfl ?_
  refine w_iload_n rfl rfl ?_
  obtain ⟨g1, H⟩ := H
  refine c_put rfl rfl rfl rfl g1 ?_
  refine w_aload_n rfl rfl ?_
  refine c_getr rfl rfl rfl g1 ?_
  show wk iv L h0 d 47 9 [lr a0, li a1] [vr (fR s a0 11)] (uI s a0 14 a1) (qi F)
  refine w_iload_n rfl rfl ?_
  refine w_dup2 rfl rfl rfl ?_
  obtain ⟨g2, H⟩ := H
  obtain ⟨g3, H⟩ := H
  refine c_ald rfl g2 g3 ?_
  show wk iv L h0 d 47 12 [lr a0, li a1] [vi (aI s (fR s a0 11) a1), vi a1, vr (fR s a0 11)] (uI s a0 14 a1) (qi F)
  refine w_iconst (n := 1) rfl rfl ?_
  obtain ⟨g4, H⟩ := H
  refine w_iadd rfl g4 ?_
  refine c_ast rfl g2 g3 ?_
  refine w_bipush (n := (-3)) rfl rfl rfl ?_
  exact w_iret rfl rfl ⟨_, rfl, H⟩

/-- HoleDesk.toldOf(LHoleDesk$Node;I)I -/
theorem C48 {iv : List (Int × Int)} {L : Nat} {h0 : MH} {d : Nat} {s : SC} {a0 : Nat} {a1 : Nat} {a2 : Int} {F : Int → SC → Prop} (H : ((a2 = 0 → (kl s a1 = 5) ∧ F (fI s a1 1) s) ∧ (a2 = 1 → (kl s a1 = 5) ∧ F (fI s a1 4) s) ∧ (a2 = 2 → (kl s a1 = 5) ∧ F (fI s a1 2) s) ∧ (a2 = 3 → (kl s a1 = 5) ∧ ((fR s a1 5 ≠ 2 → (kl s (fR s a1 5) = 5) ∧ F (fI s (fR s a1 5) 0) s) ∧ (fR s a1 5 = 2 → F (-9) s))) ∧ (a2 = 4 → (kl s a1 = 5) ∧ ((fR s a1 5 ≠ 2 → F (fI s a1 6) s) ∧ (fR s a1 5 = 2 → F (-9) s))) ∧ (a2 = 5 → (kl s a1 = 5) ∧ (100 ≤ kl s (fR s a1 3) ∧ kl s (fR s a1 3) < 108) ∧ F (le s (fR s a1 3)) s) ∧ (a2 = 6 → (kl s a1 = 5) ∧ F (fI s a1 10) s) ∧ (a2 < 0 ∨ 6 < a2 → F (-1) s))) : ck iv L h0 d 48 [vr a0, vr a1, vi a2] s (qi F) := by
  show wk iv L h0 d 48 0 [lr a0, lr a1, li a2] [] s (qi F)
  refine w_iload_n rfl rfl ?_
  have J44 : (a2 = 0) → wk iv L h0 d 48 44 [lr a0, lr a1, li a2] [] s (qi F) := fun h => by
    replace H := H.1 h
    refine w_aload_n rfl rfl ?_
    obtain ⟨g1, H⟩ := H
    refine c_get rfl rfl rfl g1 ?_
    exact w_iret rfl rfl ⟨_, rfl, H⟩
  have J49 : (a2 = 1) → wk iv L h0 d 48 49 [lr a0, lr a1, li a2] [] s (qi F) := fun h => by
    replace H := H.2.1 h
    refine w_aload_n rfl rfl ?_
    obtain ⟨g2, H⟩ := H
    refine c_get rfl rfl rfl g2 ?_
    exact w_iret rfl rfl ⟨_, rfl, H⟩
  have J54 : (a2 = 2) → wk iv L h0 d 48 54 [lr a0, lr a1, li a2] [] s (qi F) := fun h => by
    replace H := H.2.2.1 h
    refine w_aload_n rfl rfl ?_
    obtain ⟨g3, H⟩ := H
    refine c_get rfl rfl rfl g3 ?_
    exact w_iret rfl rfl ⟨_, rfl, H⟩
  have J59 : (a2 = 3) → wk iv L h0 d 48 59 [lr a0, lr a1, li a2] [] s (qi F) := fun h => by
    replace H := H.2.2.2.1 h
    refine w_aload_n rfl rfl ?_
    obtain ⟨g4, H⟩ := H
    refine c_getr rfl rfl rfl g4 ?_
    refine c_nonnull rfl (fun h => ?_) (fun h => ?_)
    · replace H := H.1 h
      refine w_aload_n rfl rfl ?_
      refine c_getr rfl rfl rfl g4 ?_
      obtain ⟨g5, H⟩ := H
      refine c_get rfl rfl rfl g5 ?_
      exact w_iret rfl rfl ⟨_, rfl, H⟩
    · replace H := H.2 h
      refine w_bipush (n := (-9)) rfl rfl rfl ?_
      refine w_goto rfl ?_
      exact w_iret rfl rfl ⟨_, rfl, H⟩
  have J79 : (a2 = 4) → wk iv L h0 d 48 79 [lr a0, lr a1, li a2] [] s (qi F) := fun h => by
    replace H := H.2.2.2.2.1 h
    refine w_aload_n rfl rfl ?_
    obtain ⟨g6, H⟩ := H
    refine c_getr rfl rfl rfl g6 ?_
    refine c_nonnull rfl (fun h => ?_) (fun h => ?_)
    · replace H := H.1 h
      refine w_aload_n rfl rfl ?_
      refine c_get rfl rfl rfl g6 ?_
      exact w_iret rfl rfl ⟨_, rfl, H⟩
    · replace H := H.2 h
      refine w_bipush (n := (-9)) rfl rfl rfl ?_
      refine w_goto rfl ?_
      exact w_iret rfl rfl ⟨_, rfl, H⟩
  have J96 : (a2 = 5) → wk iv L h0 d 48 96 [lr a0, lr a1, li a2] [] s (qi F) := fun h => by
    replace H := H.2.2.2.2.2.1 h
    refine w_aload_n rfl rfl ?_
    obtain ⟨g7, H⟩ := H
    refine c_getr rfl rfl rfl g7 ?_
    obtain ⟨g8, H⟩ := H
    refine c_len rfl g8 ?_
    exact w_iret rfl rfl ⟨_, rfl, H⟩
  have J102 : (a2 = 6) → wk iv L h0 d 48 102 [lr a0, lr a1, li a2] [] s (qi F) := fun h => by
    replace H := H.2.2.2.2.2.2.1 h
    refine w_aload_n rfl rfl ?_
    obtain ⟨g9, H⟩ := H
    refine c_get rfl rfl rfl g9 ?_
    exact w_iret rfl rfl ⟨_, rfl, H⟩
  have J107 : (a2 < 0 ∨ 6 < a2) → wk iv L h0 d 48 107 [lr a0, lr a1, li a2] [] s (qi F) := fun h => by
    replace H := H.2.2.2.2.2.2.2 h
    refine w_iconst (n := (-1)) rfl rfl ?_
    exact w_iret rfl rfl ⟨_, rfl, H⟩
  refine w_tsw (td := 107) (ts := [44, 49, 54, 59, 79, 96, 102]) rfl rfl rfl rfl rfl rfl (fun h => J107 (by omega)) ?_
  exact swA_c (fun h => J44 (by omega)) (swA_c (fun h => J49 (by omega)) (swA_c (fun h => J54 (by omega)) (swA_c (fun h => J59 (by omega)) (swA_c (fun h => J79 (by omega)) (swA_c (fun h => J96 (by omega)) (swA_c (fun h => J102 (by omega)) (swA_n)))))))

/-- HoleDesk.countNodes(Z)I -/
theorem C49 {iv : List (Int × Int)} {L : Nat} {h0 : MH} {d : Nat} {s : SC} {a0 : Nat} {a1 : Int} {F : Int → SC → Prop} (H : wk iv L h0 d 49 4 [lr a0, li a1, li 0, li 0] [] s (qi F)) : ck iv L h0 d 49 [vr a0, vi a1] s (qi F) := by
  show wk iv L h0 d 49 0 [lr a0, li a1] [] s (qi F)
  refine w_iconst (n := 0) rfl rfl ?_
  refine w_istore_n rfl rfl ?_
  refine w_iconst (n := 0) rfl rfl ?_
  refine w_istore_n rfl rfl ?_
  exact wp_ls (sl_s (sl_s (sl_s (sl_s (sl_0))))) H

/-- HoleDesk.countNodes(Z)I at 4 -/
theorem C49_4 {iv : List (Int × Int)} {L : Nat} {h0 : MH} {d : Nat} {s : SC} {l0 : Nat} {l1 : Int} {l2 : Int} {l3 : Int} {F : Int → SC → Prop} (H : (kl s l0 = 1) ∧ (kl s (fR s l0 1) = 8) ∧ ((fI s (fR s l0 1) 3 ≤ l3 → F l2 s) ∧ (l3 < fI s (fR s l0 1) 3 → (kl s (fR s (fR s l0 1) 0) = 103) ∧ (0 ≤ l3 ∧ l3 < le s (fR s (fR s l0 1) 0)) ∧ ((l1 = 0 → (kl s (aR s (fR s (fR s l0 1) 0) l3) = 5) ∧ ((fI s (aR s (fR s (fR s l0 1) 0) l3) 1 ≠ 0 → (-2147483648 ≤ l3 + 1 ∧ l3 + 1 ≤ 2147483647) ∧ wk iv L h0 d 49 4 [lr l0, li l1, li l2, li (l3 + 1)] [] s (qi F)) ∧ (fI s (aR s (fR s (fR s l0 1) 0) l3) 1 = 0 → (-2147483648 ≤ l2 + 1 ∧ l2 + 1 ≤ 2147483647) ∧ (-2147483648 ≤ l3 + 1 ∧ l3 + 1 ≤ 2147483647) ∧ wk iv L h0 d 49 4 [lr l0, li l1, li (l2 + 1), li (l3 + 1)] [] s (qi F)))) ∧ (l1 ≠ 0 → (kl s (aR s (fR s (fR s l0 1) 0) l3) = 5) ∧ ((fI s (aR s (fR s (fR s l0 1) 0) l3) 10 = 0 → (-2147483648 ≤ l3 + 1 ∧ l3 + 1 ≤ 2147483647) ∧ wk iv L h0 d 49 4 [lr l0, li l1, li l2, li (l3 + 1)] [] s (qi F)) ∧ (fI s (aR s (fR s (fR s l0 1) 0) l3) 10 ≠ 0 → (-2147483648 ≤ l2 + 1 ∧ l2 + 1 ≤ 2147483647) ∧ (-2147483648 ≤ l3 + 1 ∧ l3 + 1 ≤ 2147483647) ∧ wk iv L h0 d 49 4 [lr l0, li l1, li (l2 + 1), li (l3 + 1)] [] s (qi F)))))))) : wk iv L h0 d 49 4 [lr l0, li l1, li l2, li l3] [] s (qi F) := by
  refine w_iload_n rfl rfl ?_
  refine w_aload_n rfl rfl ?_
  obtain ⟨g1, H⟩ := H
  refine c_getr rfl rfl rfl g1 ?_
  obtain ⟨g2, H⟩ := H
  refine c_get rfl rfl rfl g2 ?_
  refine w_icmp_ge rfl (fun h => ?_) (fun h => ?_)
  · replace H := H.1 h
    refine w_iload_n rfl rfl ?_
    exact w_iret rfl rfl ⟨_, rfl, H⟩
  · replace H := H.2 h
    refine w_aload_n rfl rfl ?_
    refine c_getr rfl rfl rfl g1 ?_
    refine c_getr rfl rfl rfl g2 ?_
    refine w_iload_n rfl rfl ?_
    obtain ⟨g3, H⟩ := H
    obtain ⟨g4, H⟩ := H
    refine c_aald (t := 3) rfl ⟨g3, by decide, by decide⟩ g4 ?_
    refine w_astore rfl rfl ?_
    refine w_iload_n rfl rfl ?_
    refine w_if_eq rfl (fun h => ?_) (fun h => ?_)
    · replace H := H.1 h
      refine w_aload rfl rfl ?_
      obtain ⟨g5, H⟩ := H
      refine c_get rfl rfl rfl g5 ?_
      refine w_if_ne rfl (fun h => ?_) (fun h => ?_)
      · replace H := H.1 h
        obtain ⟨g6, H⟩ := H
        refine w_iinc rfl rfl rfl g6 ?_
        refine w_goto rfl ?_
        exact wp_ls (sl_s (sl_s (sl_s (sl_s (sl_0))))) H
      · replace H := H.2 h
        obtain ⟨g7, H⟩ := H
        refine w_iinc rfl rfl rfl g7 ?_
        obtain ⟨g8, H⟩ := H
        refine w_iinc rfl rfl rfl g8 ?_
        refine w_goto rfl ?_
        exact wp_ls (sl_s (sl_s (sl_s (sl_s (sl_0))))) H
    · replace H := H.2 h
      refine w_aload rfl rfl ?_
      obtain ⟨g9, H⟩ := H
      refine c_get rfl rfl rfl g9 ?_
      refine w_if_eq rfl (fun h => ?_) (fun h => ?_)
      · replace H := H.1 h
        obtain ⟨g10, H⟩ := H
        refine w_iinc rfl rfl rfl g10 ?_
        refine w_goto rfl ?_
        exact wp_ls (sl_s (sl_s (sl_s (sl_s (sl_0))))) H
      · replace H := H.2 h
        refine w_goto rfl ?_
        obtain ⟨g11, H⟩ := H
        refine w_iinc rfl rfl rfl g11 ?_
        obtain ⟨g12, H⟩ := H
        refine w_iinc rfl rfl rfl g12 ?_
        refine w_goto rfl ?_
        exact wp_ls (sl_s (sl_s (sl_s (sl_s (sl_0))))) H

/-- HoleDesk.countShelved()I -/
theorem C50 {iv : List (Int × Int)} {L : Nat} {h0 : MH} {d : Nat} {s : SC} {a0 : Nat} {F : Int → SC → Prop} (H : wk iv L h0 d 50 4 [lr a0, li 0, li 0] [] s (qi F)) : ck iv L h0 d 50 [vr a0] s (qi F) := by
  show wk iv L h0 d 50 0 [lr a0] [] s (qi F)
  refine w_iconst (n := 0) rfl rfl ?_
  refine w_istore_n rfl rfl ?_
  refine w_iconst (n := 0) rfl rfl ?_
  refine w_istore_n rfl rfl ?_
  exact wp_ls (sl_s (sl_s (sl_s (sl_0)))) H

/-- HoleDesk.countShelved()I at 4 -/
theorem C50_4 {iv : List (Int × Int)} {L : Nat} {h0 : MH} {d : Nat} {s : SC} {l0 : Nat} {l1 : Int} {l2 : Int} {F : Int → SC → Prop} (H : ((6 ≤ l2 → F l1 s) ∧ (l2 < 6 → (kl s l0 = 1) ∧ (kl s (fR s l0 6) = 105) ∧ (0 ≤ l2 ∧ l2 < le s (fR s l0 6)) ∧ (kl s (aR s (fR s l0 6) l2) = 2) ∧ (-2147483648 ≤ l1 + (fI s (aR s (fR s l0 6) l2) 5) ∧ l1 + (fI s (aR s (fR s l0 6) l2) 5) ≤ 2147483647) ∧ (-2147483648 ≤ l2 + 1 ∧ l2 + 1 ≤ 2147483647) ∧ wk iv L h0 d 50 4 [lr l0, li (l1 + (fI s (aR s (fR s l0 6) l2) 5)), li (l2 + 1)] [] s (qi F)))) : wk iv L h0 d 50 4 [lr l0, li l1, li l2] [] s (qi F) := by
  refine w_iload_n rfl rfl ?_
  refine w_bipush (n := 6) rfl rfl rfl ?_
  refine w_icmp_ge rfl (fun h => ?_) (fun h => ?_)
  · replace H := H.1 h
    refine w_iload_n rfl rfl ?_
    exact w_iret rfl rfl ⟨_, rfl, H⟩
  · replace H := H.2 h
    refine w_iload_n rfl rfl ?_
    refine w_aload_n rfl rfl ?_
    obtain ⟨g1, H⟩ := H
    refine c_getr rfl rfl rfl g1 ?_
    refine w_iload_n rfl rfl ?_
    obtain ⟨g2, H⟩ := H
    obtain ⟨g3, H⟩ := H
    refine c_aald (t := 5) rfl ⟨g2, by decide, by decide⟩ g3 ?_
    obtain ⟨g4, H⟩ := H
    refine c_get rfl rfl rfl g4 ?_
    obtain ⟨g5, H⟩ := H
    refine w_iadd rfl g5 ?_
    refine w_istore_n rfl rfl ?_
    obtain ⟨g6, H⟩ := H
    refine w_iinc rfl rfl rfl g6 ?_
    refine w_goto rfl ?_
    exact wp_ls (sl_s (sl_s (sl_s (sl_0)))) H

/-- HoleDesk.settle()V -/
theorem C51 {iv : List (Int × Int)} {L : Nat} {h0 : MH} {d : Nat} {s : SC} {a0 : Nat} {F : SC → Prop} (H : (kl s a0 = 1) ∧ (kl s (fR s a0 1) = 8) ∧ ck iv L h0 d 206 [vr (fR s a0 1)] s (qv fun s3 => (kl s3 a0 = 1) ∧ (kl s3 (fR s3 a0 1) = 8) ∧ (kl s3 (fR s3 a0 2) = 3) ∧ ck iv L h0 d 163 [vr (fR s3 a0 2), vr (fR s3 (fR s3 a0 1) 1)] s3 (qv fun s7 => F s7))) : ck iv L h0 (d + 1) 51 [vr a0] s (qv F) := by
  show wk iv L h0 (d + 1) 51 0 [lr a0] [] s (qv F)
  refine w_aload_n rfl rfl ?_
  obtain ⟨g1, H⟩ := H
  refine c_getr rfl rfl rfl g1 ?_
  obtain ⟨g2, H⟩ := H
  refine c_virt (p := (fR s a0 1)) (as := []) (r := []) rfl rfl rfl rfl rfl rfl g2 (wc_mono H (Nat.le_refl _) ?_)
  rintro _ s3 ⟨rfl, H⟩
  show wk iv L h0 (d + 1) 51 7 [lr a0] [] s3 (qv F)
  refine w_aload_n rfl rfl ?_
  obtain ⟨g4, H⟩ := H
  refine c_getr rfl rfl rfl g4 ?_
  refine w_aload_n rfl rfl ?_
  refine c_getr rfl rfl rfl g4 ?_
  obtain ⟨g5, H⟩ := H
  refine c_getr rfl rfl rfl g5 ?_
  obtain ⟨g6, H⟩ := H
  refine c_virt (p := (fR s3 a0 2)) (as := [vr (fR s3 (fR s3 a0 1) 1)]) (r := []) rfl rfl rfl rfl rfl rfl g6 (wc_mono H (Nat.le_refl _) ?_)
  rintro _ s7 ⟨rfl, H⟩
  show wk iv L h0 (d + 1) 51 21 [lr a0] [] s7 (qv F)
  exact w_ret rfl rfl ⟨rfl, H⟩

/-- HoleDesk.changed()V -/
theorem C52 {iv : List (Int × Int)} {L : Nat} {h0 : MH} {d : Nat} {s : SC} {a0 : Nat} {F : SC → Prop} (H : (kl s a0 = 1) ∧ ck iv L h0 d 51 [vr a0] (uI s a0 15 1) (qv fun s2 => F s2)) : ck iv L h0 (d + 1) 52 [vr a0] s (qv F) := by
  show wk iv L h0 (d + 1) 52 0 [lr a0] [] s (qv F)
  refine w_aload_n rfl rfl ?_
  refine w_iconst (n := 1) rfl rfl ?_
  obtain ⟨g1, H⟩ := H
  refine c_putz rfl rfl rfl rfl (by decide) g1 ?_
  refine w_aload_n rfl rfl ?_
  refine c_virt (p := a0) (as := []) (r := []) rfl rfl rfl rfl rfl rfl g1 (wc_mono H (Nat.le_refl _) ?_)
  rintro _ s2 ⟨rfl, H⟩
  show wk iv L h0 (d + 1) 52 9 [lr a0] [] s2 (qv F)
  exact w_ret rfl rfl ⟨rfl, H⟩

/-- HoleDesk.noteOutcome(I)I -/
theorem C53 {iv : List (Int × Int)} {L : Nat} {h0 : MH} {d : Nat} {s : SC} {a0 : Nat} {a1 : Int} {F : Int → SC → Prop} (H : (kl s a0 = 1) ∧ (kl s (fR s a0 1) = 8) ∧ ck iv L h0 d 217 [vr (fR s a0 1)] (uI s a0 15 0) (qv fun s3 => (kl s3 a0 = 1) ∧ (kl s3 (fR s3 a0 3) = 11) ∧ ((fR s3 (fR s3 a0 3) 6 = 2 → F a1 s3) ∧ (fR s3 (fR s3 a0 3) 6 ≠ 2 → (kl s3 (fR s3 a0 4) = 12) ∧ ck iv L h0 d 247 [vr (fR s3 a0 4), vr (fR s3 (fR s3 a0 3) 6)] s3 (qv fun s7 => F a1 s7))))) : ck iv L h0 (d + 1) 53 [vr a0, vi a1] s (qi F) := by
  show wk iv L h0 (d + 1) 53 0 [lr a0, li a1] [] s (qi F)
  refine w_aload_n rfl rfl ?_
  refine w_iconst (n := 0) rfl rfl ?_
  obtain ⟨g1, H⟩ := H
  refine c_putz rfl rfl rfl rfl (by decide) g1 ?_
  refine w_aload_n rfl rfl ?_
  refine c_getr rfl rfl rfl g1 ?_
  show wk iv L h0 (d + 1) 53 9 [lr a0, li a1] [vr (fR s a0 1)] (uI s a0 15 0) (qi F)
  obtain ⟨g2, H⟩ := H
  refine c_virt (p := (fR s a0 1)) (as := []) (r := []) rfl rfl rfl rfl rfl rfl g2 (wc_mono H (Nat.le_refl _) ?_)
  rintro _ s3 ⟨rfl, H⟩
  show wk iv L h0 (d + 1) 53 12 [lr a0, li a1] [] s3 (qi F)
  refine w_aload_n rfl rfl ?_
  obtain ⟨g4, H⟩ := H
  refine c_getr rfl rfl rfl g4 ?_
  obtain ⟨g5, H⟩ := H
  refine c_getr rfl rfl rfl g5 ?_
  refine c_null rfl (fun h => ?_) (fun h => ?_)
  · replace H := H.1 h
    refine w_iload_n rfl rfl ?_
    exact w_iret rfl rfl ⟨_, rfl, H⟩
  · replace H := H.2 h
    refine w_aload_n rfl rfl ?_
    refine c_getr rfl rfl rfl g4 ?_
    refine w_aload_n rfl rfl ?_
    refine c_getr rfl rfl rfl g4 ?_
    refine c_getr rfl rfl rfl g5 ?_
    obtain ⟨g6, H⟩ := H
    refine c_virt (p := (fR s3 a0 4)) (as := [vr (fR s3 (fR s3 a0 3) 6)]) (r := []) rfl rfl rfl rfl rfl rfl g6 (wc_mono H (Nat.le_refl _) ?_)
    rintro _ s7 ⟨rfl, H⟩
    show wk iv L h0 (d + 1) 53 36 [lr a0, li a1] [] s7 (qi F)
    refine w_iload_n rfl rfl ?_
    exact w_iret rfl rfl ⟨_, rfl, H⟩

/-- HoleDesk.leftHole(I)LHoleDesk$Value; -/
theorem C54 {iv : List (Int × Int)} {L : Nat} {h0 : MH} {d : Nat} {s : SC} {a0 : Nat} {a1 : Int} {F : Nat → SC → Prop} (H : (kl s a0 = 1) ∧ (kl s (fR s a0 3) = 11) ∧ ((fR s (fR s a0 3) 6 = 2 → F 2 s) ∧ (fR s (fR s a0 3) 6 ≠ 2 → ((a1 < 0 → F 2 s) ∧ (0 ≤ a1 → (kl s (fR s a0 4) = 12) ∧ ((a1 < fI s (fR s a0 4) 1 → (kl s (fR s (fR s a0 4) 0) = 106) ∧ (0 ≤ a1 ∧ a1 < le s (fR s (fR s a0 4) 0)) ∧ F (aR s (fR s (fR s a0 4) 0) a1) s) ∧ (fI s (fR s a0 4) 1 ≤ a1 → F 2 s))))))) : ck iv L h0 d 54 [vr a0, vi a1] s (qa F) := by
  show wk iv L h0 d 54 0 [lr a0, li a1] [] s (qa F)
  refine w_aload_n rfl rfl ?_
  obtain ⟨g1, H⟩ := H
  refine c_getr rfl rfl rfl g1 ?_
  obtain ⟨g2, H⟩ := H
  refine c_getr rfl rfl rfl g2 ?_
  refine c_null rfl (fun h => ?_) (fun h => ?_)
  · replace H := H.1 h
    refine w_null rfl ?_
    exact w_aret rfl rfl ⟨_, rfl, H⟩
  · replace H := H.2 h
    refine w_iload_n rfl rfl ?_
    refine w_if_lt rfl (fun h => ?_) (fun h => ?_)
    · replace H := H.1 h
      refine w_null rfl ?_
      exact w_aret rfl rfl ⟨_, rfl, H⟩
    · replace H := H.2 h
      refine w_iload_n rfl rfl ?_
      refine w_aload_n rfl rfl ?_
      refine c_getr rfl rfl rfl g1 ?_
      obtain ⟨g3, H⟩ := H
      refine c_get rfl rfl rfl g3 ?_
      refine w_icmp_lt rfl (fun h => ?_) (fun h => ?_)
      · replace H := H.1 h
        refine w_aload_n rfl rfl ?_
        refine c_getr rfl rfl rfl g1 ?_
        refine c_getr rfl rfl rfl g3 ?_
        refine w_iload_n rfl rfl ?_
        obtain ⟨g4, H⟩ := H
        obtain ⟨g5, H⟩ := H
        refine c_aald (t := 6) rfl ⟨g4, by decide, by decide⟩ g5 ?_
        exact w_aret rfl rfl ⟨_, rfl, H⟩
      · replace H := H.2 h
        refine w_null rfl ?_
        exact w_aret rfl rfl ⟨_, rfl, H⟩

/-- HoleDesk.trialOf(I)LHoleDesk$Node; -/
theorem C55 {iv : List (Int × Int)} {L : Nat} {h0 : MH} {d : Nat} {s : SC} {a1 : Int} {F : Nat → SC → Prop} (H : (353 ≤ nxt s) ∧ ck iv L h0 d 43 [vi a1] (nO s 4) (qi fun r3 s2 => ((r3 = 0 → ck iv L h0 d 44 [vi a1] s2 (qi fun r5 s4 => ((r5 = 0 → (nxt s ≠ 2) ∧ ck iv L h0 d 186 [vr (nxt s), vi (-9), vi a1, vi (-9), vi (-9)] s4 (qv fun s7 => wk iv L h0 (d + 1) 55 39 [ln, lr (nxt s), li 0] [] s7 (qa F))) ∧ (r5 ≠ 0 → (nxt s ≠ 2) ∧ ck iv L h0 d 186 [vr (nxt s), vi (-9), vi a1, vi (-9), vi 0] s4 (qv fun s9 => wk iv L h0 (d + 1) 55 39 [ln, lr (nxt s), li 0] [] s9 (qa F)))))) ∧ (r3 ≠ 0 → ck iv L h0 d 44 [vi a1] s2 (qi fun r11 s10 => ((r11 = 0 → (nxt s ≠ 2) ∧ ck iv L h0 d 186 [vr (nxt s), vi (-9), vi a1, vi 0, vi (-9)] s10 (qv fun s13 => wk iv L h0 (d + 1) 55 39 [ln, lr (nxt s), li 0] [] s13 (qa F))) ∧ (r11 ≠ 0 → (nxt s ≠ 2) ∧ ck iv L h0 d 186 [vr (nxt s), vi (-9), vi a1, vi 0, vi 0] s10 (qv fun s15 => wk iv L h0 (d + 1) 55 39 [ln, lr (nxt s), li 0] [] s15 (qa F))))))))) : ck iv L h0 (d + 1) 55 [vi a1] s (qa F) := by
  show wk iv L h0 (d + 1) 55 0 [li a1] [] s (qa F)
  obtain ⟨g1, H⟩ := H
  refine c_new rfl rfl g1 ?_
  show wk iv L h0 (d + 1) 55 3 [li a1] [vr (nxt s)] (nO s 4) (qa F)
  refine w_dup rfl rfl ?_
  refine w_bipush (n := (-9)) rfl rfl rfl ?_
  refine w_iload_n rfl rfl ?_
  refine w_iload_n rfl rfl ?_
  refine w_static (as := [vi a1]) (r := [vi a1, vi (-9), vr (nxt s), vr (nxt s)]) rfl rfl rfl rfl rfl (wc_mono H (Nat.le_refl _) ?_)
  rintro _ s2 ⟨r3, rfl, H⟩
  show wk iv L h0 (d + 1) 55 11 [li a1] [vi r3, vi a1, vi (-9), vr (nxt s), vr (nxt s)] s2 (qa F)
  refine w_if_eq rfl (fun h => ?_) (fun h => ?_)
  · replace H := H.1 h
    refine w_bipush (n := (-9)) rfl rfl rfl ?_
    refine w_iload_n rfl rfl ?_
    refine w_static (as := [vi a1]) (r := [vi (-9), vi a1, vi (-9), vr (nxt s), vr (nxt s)]) rfl rfl rfl rfl rfl (wc_mono H (Nat.le_refl _) ?_)
    rintro _ s4 ⟨r5, rfl, H⟩
    show wk iv L h0 (d + 1) 55 24 [li a1] [vi r5, vi (-9), vi a1, vi (-9), vr (nxt s), vr (nxt s)] s4 (qa F)
    refine w_if_eq rfl (fun h => ?_) (fun h => ?_)
    · replace H := H.1 h
      refine w_bipush (n := (-9)) rfl rfl rfl ?_
      obtain ⟨g6, H⟩ := H
      refine c_spec (p := (nxt s)) (as := [vi (-9), vi a1, vi (-9), vi (-9)]) (r := [vr (nxt s)]) rfl rfl rfl rfl rfl g6 (wc_mono H (Nat.le_refl _) ?_)
      rintro _ s7 ⟨rfl, H⟩
      show wk iv L h0 (d + 1) 55 36 [li a1] [vr (nxt s)] s7 (qa F)
      refine w_astore_n rfl rfl ?_
      refine w_iconst (n := 0) rfl rfl ?_
      refine w_istore_n rfl rfl ?_
      exact wp_ls (sl_n (sl_s (sl_s (sl_0)))) H
    · replace H := H.2 h
      refine w_iconst (n := 0) rfl rfl ?_
      refine w_goto rfl ?_
      obtain ⟨g8, H⟩ := H
      refine c_spec (p := (nxt s)) (as := [vi (-9), vi a1, vi (-9), vi 0]) (r := [vr (nxt s)]) rfl rfl rfl rfl rfl g8 (wc_mono H (Nat.le_refl _) ?_)
      rintro _ s9 ⟨rfl, H⟩
      show wk iv L h0 (d + 1) 55 36 [li a1] [vr (nxt s)] s9 (qa F)
      refine w_astore_n rfl rfl ?_
      refine w_iconst (n := 0) rfl rfl ?_
      refine w_istore_n rfl rfl ?_
      exact wp_ls (sl_n (sl_s (sl_s (sl_0)))) H
  · replace H := H.2 h
    refine w_iconst (n := 0) rfl rfl ?_
    refine w_goto rfl ?_
    refine w_iload_n rfl rfl ?_
    refine w_static (as := [vi a1]) (r := [vi 0, vi a1, vi (-9), vr (nxt s), vr (nxt s)]) rfl rfl rfl rfl rfl (wc_mono H (Nat.le_refl _) ?_)
    rintro _ s10 ⟨r11, rfl, H⟩
    show wk iv L h0 (d + 1) 55 24 [li a1] [vi r11, vi 0, vi a1, vi (-9), vr (nxt s), vr (nxt s)] s10 (qa F)
    refine w_if_eq rfl (fun h => ?_) (fun h => ?_)
    · replace H := H.1 h
      refine w_bipush (n := (-9)) rfl rfl rfl ?_
      obtain ⟨g12, H⟩ := H
      refine c_spec (p := (nxt s)) (as := [vi (-9), vi a1, vi 0, vi (-9)]) (r := [vr (nxt s)]) rfl rfl rfl rfl rfl g12 (wc_mono H (Nat.le_refl _) ?_)
      rintro _ s13 ⟨rfl, H⟩
      show wk iv L h0 (d + 1) 55 36 [li a1] [vr (nxt s)] s13 (qa F)
      refine w_astore_n rfl rfl ?_
      refine w_iconst (n := 0) rfl rfl ?_
      refine w_istore_n rfl rfl ?_
      exact wp_ls (sl_n (sl_s (sl_s (sl_0)))) H
    · replace H := H.2 h
      refine w_iconst (n := 0) rfl rfl ?_
      refine w_goto rfl ?_
      obtain ⟨g14, H⟩ := H
      refine c_spec (p := (nxt s)) (as := [vi (-9), vi a1, vi 0, vi 0]) (r := [vr (nxt s)]) rfl rfl rfl rfl rfl g14 (wc_mono H (Nat.le_refl _) ?_)
      rintro _ s15 ⟨rfl, H⟩
      show wk iv L h0 (d + 1) 55 36 [li a1] [vr (nxt s)] s15 (qa F)
      refine w_astore_n rfl rfl ?_
      refine w_iconst (n := 0) rfl rfl ?_
      refine w_istore_n rfl rfl ?_
      exact wp_ls (sl_n (sl_s (sl_s (sl_0)))) H

/-- HoleDesk.trialOf(I)LHoleDesk$Node; at 39 -/
theorem C55_39 {iv : List (Int × Int)} {L : Nat} {h0 : MH} {d : Nat} {s : SC} {l1 : Nat} {l2 : Int} {F : Nat → SC → Prop} (H : (kl s l1 = 5) ∧ (100 ≤ kl s (fR s l1 3) ∧ kl s (fR s l1 3) < 108) ∧ ((le s (fR s l1 3) ≤ l2 → F l1 s) ∧ (l2 < le s (fR s l1 3) → (353 ≤ nxt s) ∧ (nxt s ≠ 2) ∧ ck iv L h0 d 186 [vr (nxt s), vi (-9), vi 0, vi (-9), vi (-9)] (nO s 4) (qv fun s5 => (kl s5 l1 = 5) ∧ ck iv L h0 d 188 [vr l1, vi l2, vr (nxt s)] s5 (qv fun s7 => (-2147483648 ≤ l2 + 1 ∧ l2 + 1 ≤ 2147483647) ∧ wk iv L h0 (d + 1) 55 39 [ln, lr l1, li (l2 + 1)] [] s7 (qa F)))))) : wk iv L h0 (d + 1) 55 39 [ln, lr l1, li l2] [] s (qa F) := by
  refine w_iload_n rfl rfl ?_
  refine w_aload_n rfl rfl ?_
  obtain ⟨g1, H⟩ := H
  refine c_getr rfl rfl rfl g1 ?_
  obtain ⟨g2, H⟩ := H
  refine c_len rfl g2 ?_
  refine w_icmp_ge rfl (fun h => ?_) (fun h => ?_)
  · replace H := H.1 h
    refine w_aload_n rfl rfl ?_
    exact w_aret rfl rfl ⟨_, rfl, H⟩
  · replace H := H.2 h
    refine w_aload_n rfl rfl ?_
    refine w_iload_n rfl rfl ?_
    obtain ⟨g3, H⟩ := H
    refine c_new rfl rfl g3 ?_
    show wk iv L h0 (d + 1) 55 53 [ln, lr l1, li l2] [vr (nxt s), vi l2, vr l1] (nO s 4) (qa F)
    refine w_dup rfl rfl ?_
    refine w_bipush (n := (-9)) rfl rfl rfl ?_
    refine w_iconst (n := 0) rfl rfl ?_
    refine w_bipush (n := (-9)) rfl rfl rfl ?_
    refine w_bipush (n := (-9)) rfl rfl rfl ?_
    obtain ⟨g4, H⟩ := H
    refine c_spec (p := (nxt s)) (as := [vi (-9), vi 0, vi (-9), vi (-9)]) (r := [vr (nxt s), vi l2, vr l1]) rfl rfl rfl rfl rfl g4 (wc_mono H (Nat.le_refl _) ?_)
    rintro _ s5 ⟨rfl, H⟩
    show wk iv L h0 (d + 1) 55 64 [ln, lr l1, li l2] [vr (nxt s), vi l2, vr l1] s5 (qa F)
    obtain ⟨g6, H⟩ := H
    refine c_virt (p := l1) (as := [vi l2, vr (nxt s)]) (r := []) rfl rfl rfl rfl rfl rfl g6 (wc_mono H (Nat.le_refl _) ?_)
    rintro _ s7 ⟨rfl, H⟩
    show wk iv L h0 (d + 1) 55 67 [ln, lr l1, li l2] [] s7 (qa F)
    obtain ⟨g8, H⟩ := H
    refine w_iinc rfl rfl rfl g8 ?_
    refine w_goto rfl ?_
    exact wp_ls (sl_n (sl_s (sl_s (sl_0)))) H

/-- HoleDesk.nearestBinder(LHoleDesk$Node;ILHoleDesk$Node;I)LHoleDesk$Node; -/
theorem C56 {iv : List (Int × Int)} {L : Nat} {h0 : MH} {d : Nat} {s : SC} {a1 : Nat} {a2 : Int} {a3 : Nat} {a4 : Int} {F : Nat → SC → Prop} (H : (kl s a1 = 5) ∧ wk iv L h0 d 56 9 [ln, li a2, lr a3, li a4, lr a1, lr (fR s a1 5)] [] s (qa F)) : ck iv L h0 d 56 [vr a1, vi a2, vr a3, vi a4] s (qa F) := by
  show wk iv L h0 d 56 0 [lr a1, li a2, lr a3, li a4] [] s (qa F)
  refine w_aload_n rfl rfl ?_
  refine w_astore rfl rfl ?_
  refine w_aload_n rfl rfl ?_
  obtain ⟨g1, H⟩ := H
  refine c_getr rfl rfl rfl g1 ?_
  refine w_astore rfl rfl ?_
  exact wp_ls (sl_n (sl_s (sl_s (sl_s (sl_s (sl_s (sl_0))))))) H

/-- HoleDesk.nearestBinder(LHoleDesk$Node;ILHoleDesk$Node;I)LHoleDesk$Node; at 9 -/
theorem C56_9 {iv : List (Int × Int)} {L : Nat} {h0 : MH} {d : Nat} {s : SC} {l1 : Int} {l2 : Nat} {l3 : Int} {l4 : Nat} {l5 : Nat} {F : Nat → SC → Prop} (H : ((l5 = 2 → F 2 s) ∧ (l5 ≠ 2 → (kl s l5 = 5) ∧ ((fI s l5 1 = 8 → (l5 = 2 ∨ 64 ≤ l5) ∧ (l2 = 2 ∨ 64 ≤ l2) ∧ ((l5 ≠ l2 → ((fI s l5 4 ≠ l1 → wk iv L h0 d 56 9 [ln, li l1, lr l2, li l3, lr l5, lr (fR s l5 5)] [] s (qa F)) ∧ (fI s l5 4 = l1 → F l5 s))) ∧ (l5 = l2 → ((l3 ≠ l1 → wk iv L h0 d 56 9 [ln, li l1, lr l2, li l3, lr l5, lr (fR s l5 5)] [] s (qa F)) ∧ (l3 = l1 → F l5 s))))) ∧ (fI s l5 1 ≠ 8 → ((fI s l5 1 ≠ 10 → wk iv L h0 d 56 9 [ln, li l1, lr l2, li l3, lr l5, lr (fR s l5 5)] [] s (qa F)) ∧ (fI s l5 1 = 10 → (kl s l4 = 5) ∧ ((fI s l4 6 ≠ 1 → wk iv L h0 d 56 9 [ln, li l1, lr l2, li l3, lr l5, lr (fR s l5 5)] [] s (qa F)) ∧ (fI s l4 6 = 1 → (l5 = 2 ∨ 64 ≤ l5) ∧ (l2 = 2 ∨ 64 ≤ l2) ∧ ((l5 ≠ l2 → ((fI s l5 4 ≠ l1 → wk iv L h0 d 56 9 [ln, li l1, lr l2, li l3, lr l5, lr (fR s l5 5)] [] s (qa F)) ∧ (fI s l5 4 = l1 → F l5 s))) ∧ (l5 = l2 → ((l3 ≠ l1 → wk iv L h0 d 56 9 [ln, li l1, lr l2, li l3, lr l5, lr (fR s l5 5)] [] s (qa F)) ∧ (l3 = l1 → F l5 s))))))))))))) : wk iv L h0 d 56 9 [ln, li l1, lr l2, li l3, lr l4, lr l5] [] s (qa F) := by
  refine w_aload rfl rfl ?_
  refine c_null rfl (fun h => ?_) (fun h => ?_)
  · replace H := H.1 h
    refine w_null rfl ?_
    exact w_aret rfl rfl ⟨_, rfl, H⟩
  · replace H := H.2 h
    refine w_aload rfl rfl ?_
    obtain ⟨g1, H⟩ := H
    refine c_get rfl rfl rfl g1 ?_
    refine w_bipush (n := 8) rfl rfl rfl ?_
    refine w_icmp_eq rfl (fun h => ?_) (fun h => ?_)
    · replace H := H.1 h
      refine w_iconst (n := 1) rfl rfl ?_
      refine w_goto rfl ?_
      refine w_istore rfl rfl ?_
      refine w_iload rfl rfl ?_
      refine w_if_eq rfl (fun h => absurd h (by decide)) (fun _ => ?_)
      refine w_aload rfl rfl ?_
      refine w_aload_n rfl rfl ?_
      obtain ⟨g2, H⟩ := H
      obtain ⟨g3, H⟩ := H
      refine c_acmp_ne rfl g2 g3 (fun h => ?_) (fun h => ?_)
      · replace H := H.1 h
        refine w_aload rfl rfl ?_
        refine c_get rfl rfl rfl g1 ?_
        refine w_iload_n rfl rfl ?_
        refine w_icmp_ne rfl (fun h => ?_) (fun h => ?_)
        · replace H := H.1 h
          refine w_aload rfl rfl ?_
          refine w_astore rfl rfl ?_
          refine w_aload rfl rfl ?_
          refine c_getr rfl rfl rfl g1 ?_
          refine w_astore rfl rfl ?_
          refine w_goto rfl ?_
          exact wp_ls (sl_n (sl_s (sl_s (sl_s (sl_s (sl_s (sl_0))))))) H
        · replace H := H.2 h
          refine w_aload rfl rfl ?_
          exact w_aret rfl rfl ⟨_, rfl, H⟩
      · replace H := H.2 h
        refine w_iload_n rfl rfl ?_
        refine w_goto rfl ?_
        refine w_iload_n rfl rfl ?_
        refine w_icmp_ne rfl (fun h => ?_) (fun h => ?_)
        · replace H := H.1 h
          refine w_aload rfl rfl ?_
          refine w_astore rfl rfl ?_
          refine w_aload rfl rfl ?_
          refine c_getr rfl rfl rfl g1 ?_
          refine w_astore rfl rfl ?_
          refine w_goto rfl ?_
          exact wp_ls (sl_n (sl_s (sl_s (sl_s (sl_s (sl_s (sl_0))))))) H
        · replace H := H.2 h
          refine w_aload rfl rfl ?_
          exact w_aret rfl rfl ⟨_, rfl, H⟩
    · replace H := H.2 h
      refine w_aload rfl rfl ?_
      refine c_get rfl rfl rfl g1 ?_
      refine w_bipush (n := 10) rfl rfl rfl ?_
      refine w_icmp_ne rfl (fun h => ?_) (fun h => ?_)
      · replace H := H.1 h
        refine w_iconst (n := 0) rfl rfl ?_
        refine w_istore rfl rfl ?_
        refine w_iload rfl rfl ?_
        refine w_if_eq rfl (fun _ => ?_) (fun h => absurd h (by decide))
        refine w_aload rfl rfl ?_
        refine w_astore rfl rfl ?_
        refine w_aload rfl rfl ?_
        refine c_getr rfl rfl rfl g1 ?_
        refine w_astore rfl rfl ?_
        refine w_goto rfl ?_
        exact wp_ls (sl_n (sl_s (sl_s (sl_s (sl_s (sl_s (sl_0))))))) H
      · replace H := H.2 h
        refine w_aload rfl rfl ?_
        obtain ⟨g4, H⟩ := H
        refine c_get rfl rfl rfl g4 ?_
        refine w_iconst (n := 1) rfl rfl ?_
        refine w_icmp_ne rfl (fun h => ?_) (fun h => ?_)
        · replace H := H.1 h
          refine w_iconst (n := 0) rfl rfl ?_
          refine w_istore rfl rfl ?_
          refine w_iload rfl rfl ?_
          refine w_if_eq rfl (fun _ => ?_) (fun h => absurd h (by decide))
          refine w_aload rfl rfl ?_
          refine w_astore rfl rfl ?_
          refine w_aload rfl rfl ?_
          refine c_getr rfl rfl rfl g1 ?_
          refine w_astore rfl rfl ?_
          refine w_goto rfl ?_
          exact wp_ls (sl_n (sl_s (sl_s (sl_s (sl_s (sl_s (sl_0))))))) H
        · replace H := H.2 h
          refine w_iconst (n := 1) rfl rfl ?_
          refine w_goto rfl ?_
          refine w_istore rfl rfl ?_
          refine w_iload rfl rfl ?_
          refine w_if_eq rfl (fun h => absurd h (by decide)) (fun _ => ?_)
          refine w_aload rfl rfl ?_
          refine w_aload_n rfl rfl ?_
          obtain ⟨g5, H⟩ := H
          obtain ⟨g6, H⟩ := H
          refine c_acmp_ne rfl g5 g6 (fun h => ?_) (fun h => ?_)
          · replace H := H.1 h
            refine w_aload rfl rfl ?_
            refine c_get rfl rfl rfl g1 ?_
            refine w_iload_n rfl rfl ?_
            refine w_icmp_ne rfl (fun h => ?_) (fun h => ?_)
            · replace H := H.1 h
              refine w_aload rfl rfl ?_
              refine w_astore rfl rfl ?_
              refine w_aload rfl rfl ?_
              refine c_getr rfl rfl rfl g1 ?_
              refine w_astore rfl rfl ?_
              refine w_goto rfl ?_
              exact wp_ls (sl_n (sl_s (sl_s (sl_s (sl_s (sl_s (sl_0))))))) H
            · replace H := H.2 h
              refine w_aload rfl rfl ?_
              exact w_aret rfl rfl ⟨_, rfl, H⟩
          · replace H := H.2 h
            refine w_iload_n rfl rfl ?_
            refine w_goto rfl ?_
            refine w_iload_n rfl rfl ?_
            refine w_icmp_ne rfl (fun h => ?_) (fun h => ?_)
            · replace H := H.1 h
              refine w_aload rfl rfl ?_
              refine w_astore rfl rfl ?_
              refine w_aload rfl rfl ?_
              refine c_getr rfl rfl rfl g1 ?_
              refine w_astore rfl rfl ?_
              refine w_goto rfl ?_
              exact wp_ls (sl_n (sl_s (sl_s (sl_s (sl_s (sl_s (sl_0))))))) H
            · replace H := H.2 h
              refine w_aload rfl rfl ?_
              exact w_aret rfl rfl ⟨_, rfl, H⟩

/-- HoleDesk.listOffers()I -/
theorem C57 {iv : List (Int × Int)} {L : Nat} {h0 : MH} {d : Nat} {s : SC} {a0 : Nat} {F : Int → SC → Prop} (H : (kl s a0 = 1) ∧ (kl s (fR s a0 1) = 8) ∧ wk iv L h0 (d + 1) 57 12 [lr a0, lr (fR s (fR s a0 1) 2), li 0, li 0] [] s (qi F)) : ck iv L h0 (d + 1) 57 [vr a0] s (qi F) := by
  show wk iv L h0 (d + 1) 57 0 [lr a0] [] s (qi F)
  refine w_aload_n rfl rfl ?_
  obtain ⟨g1, H⟩ := H
  refine c_getr rfl rfl rfl g1 ?_
  obtain ⟨g2, H⟩ := H
  refine c_getr rfl rfl rfl g2 ?_
  refine w_astore_n rfl rfl ?_
  refine w_iconst (n := 0) rfl rfl ?_
  refine w_istore_n rfl rfl ?_
  refine w_iconst (n := 0) rfl rfl ?_
  refine w_istore_n rfl rfl ?_
  exact wp_ls (sl_s (sl_s (sl_s (sl_s (sl_0))))) H

/-- HoleDesk.listOffers()I at 12 -/
theorem C57_12 {iv : List (Int × Int)} {L : Nat} {h0 : MH} {d : Nat} {s : SC} {l0 : Nat} {l1 : Nat} {l2 : Int} {l3 : Int} {F : Int → SC → Prop} (H : ((26 ≤ l3 → wk iv L h0 (d + 1) 57 55 [lr l0, ln, li l2, li 1] [] s (qi F)) ∧ (l3 < 26 → ck iv L h0 d 56 [vr l1, vi l3, vr 2, vi (-9)] s (qa fun r2 s1 => ((r2 = 2 → (-2147483648 ≤ l3 + 1 ∧ l3 + 1 ≤ 2147483647) ∧ wk iv L h0 (d + 1) 57 12 [lr l0, lr l1, li l2, li (l3 + 1)] [] s1 (qi F)) ∧ (r2 ≠ 2 → (kl s1 l0 = 1) ∧ (kl s1 (fR s1 l0 7) = 103) ∧ ((0 : Int) ≤ 3 ∧ 3 < le s1 (fR s1 l0 7)) ∧ (kl s1 (aR s1 (fR s1 l0 7) 3) = 5) ∧ ck iv L h0 d 58 [vr l0, vi l2, vi 3, vi l3] (uI s1 (aR s1 (fR s1 l0 7) 3) 4 l3) (qi fun r9 s8 => (-2147483648 ≤ l3 + 1 ∧ l3 + 1 ≤ 2147483647) ∧ wk iv L h0 (d + 1) 57 12 [lr l0, lr l1, li r9, li (l3 + 1)] [] s8 (qi F)))))))) : wk iv L h0 (d + 1) 57 12 [lr l0, lr l1, li l2, li l3] [] s (qi F) := by
  refine w_iload_n rfl rfl ?_
  refine w_bipush (n := 26) rfl rfl rfl ?_
  refine w_icmp_ge rfl (fun h => ?_) (fun h => ?_)
  · replace H := H.1 h
    refine w_iconst (n := 1) rfl rfl ?_
    refine w_istore_n rfl rfl ?_
    exact wp_ls (sl_s (sl_n (sl_s (sl_s (sl_0))))) H
  · replace H := H.2 h
    refine w_aload_n rfl rfl ?_
    refine w_iload_n rfl rfl ?_
    refine w_null rfl ?_
    refine w_bipush (n := (-9)) rfl rfl rfl ?_
    refine w_static (as := [vr l1, vi l3, vr 2, vi (-9)]) (r := []) rfl rfl rfl rfl rfl (wc_mono H (Nat.le_refl _) ?_)
    rintro _ s1 ⟨r2, rfl, H⟩
    show wk iv L h0 (d + 1) 57 26 [lr l0, lr l1, li l2, li l3] [vr r2] s1 (qi F)
    refine c_null rfl (fun h => ?_) (fun h => ?_)
    · replace H := H.1 h
      obtain ⟨g3, H⟩ := H
      refine w_iinc rfl rfl rfl g3 ?_
      refine w_goto rfl ?_
      exact wp_ls (sl_s (sl_s (sl_s (sl_s (sl_0))))) H
    · replace H := H.2 h
      refine w_aload_n rfl rfl ?_
      obtain ⟨g4, H⟩ := H
      refine c_getr rfl rfl rfl g4 ?_
      refine w_iconst (n := 3) rfl rfl ?_
      obtain ⟨g5, H⟩ := H
      obtain ⟨g6, H⟩ := H
      refine c_aald (t := 3) rfl ⟨g5, by decide, by decide⟩ g6 ?_
      refine w_iload_n rfl rfl ?_
      obtain ⟨g7, H⟩ := H
      refine c_put rfl rfl rfl rfl g7 ?_
      refine w_aload_n rfl rfl ?_
      refine w_iload_n rfl rfl ?_
      refine w_iconst (n := 3) rfl rfl ?_
      refine w_iload_n rfl rfl ?_
      refine c_virt (p := l0) (as := [vi l2, vi 3, vi l3]) (r := []) rfl rfl rfl rfl rfl rfl g4 (wc_mono H (Nat.le_refl _) ?_)
      rintro _ s8 ⟨r9, rfl, H⟩
      show wk iv L h0 (d + 1) 57 46 [lr l0, lr l1, li l2, li l3] [vi r9] s8 (qi F)
      refine w_istore_n rfl rfl ?_
      obtain ⟨g10, H⟩ := H
      refine w_iinc rfl rfl rfl g10 ?_
      refine w_goto rfl ?_
      exact wp_ls (sl_s (sl_s (sl_s (sl_s (sl_0))))) H

/-- HoleDesk.listOffers()I at 55 -/
theorem C57_55 {iv : List (Int × Int)} {L : Nat} {h0 : MH} {d : Nat} {s : SC} {l0 : Nat} {l2 : Int} {l3 : Int} {F : Int → SC → Prop} (H : ((15 < l3 → F l2 s) ∧ (l3 ≤ 15 → ((l3 = 3 → (-2147483648 ≤ l3 + 1 ∧ l3 + 1 ≤ 2147483647) ∧ wk iv L h0 (d + 1) 57 55 [lr l0, ln, li l2, li (l3 + 1)] [] s (qi F)) ∧ (l3 ≠ 3 → (kl s l0 = 1) ∧ ck iv L h0 d 58 [vr l0, vi l2, vi l3, vi (-9)] s (qi fun r4 s3 => (-2147483648 ≤ l3 + 1 ∧ l3 + 1 ≤ 2147483647) ∧ wk iv L h0 (d + 1) 57 55 [lr l0, ln, li r4, li (l3 + 1)] [] s3 (qi F))))))) : wk iv L h0 (d + 1) 57 55 [lr l0, ln, li l2, li l3] [] s (qi F) := by
  refine w_iload_n rfl rfl ?_
  refine w_bipush (n := 15) rfl rfl rfl ?_
  refine w_icmp_gt rfl (fun h => ?_) (fun h => ?_)
  · replace H := H.1 h
    refine w_iload_n rfl rfl ?_
    exact w_iret rfl rfl ⟨_, rfl, H⟩
  · replace H := H.2 h
    refine w_iload_n rfl rfl ?_
    refine w_iconst (n := 3) rfl rfl ?_
    refine w_icmp_eq rfl (fun h => ?_) (fun h => ?_)
    · replace H := H.1 h
      obtain ⟨g1, H⟩ := H
      refine w_iinc rfl rfl rfl g1 ?_
      refine w_goto rfl ?_
      exact wp_ls (sl_s (sl_n (sl_s (sl_s (sl_0))))) H
    · replace H := H.2 h
      refine w_aload_n rfl rfl ?_
      refine w_iload_n rfl rfl ?_
      refine w_iload_n rfl rfl ?_
      refine w_bipush (n := (-9)) rfl rfl rfl ?_
      obtain ⟨g2, H⟩ := H
      refine c_virt (p := l0) (as := [vi l2, vi l3, vi (-9)]) (r := []) rfl rfl rfl rfl rfl rfl g2 (wc_mono H (Nat.le_refl _) ?_)
      rintro _ s3 ⟨r4, rfl, H⟩
      show wk iv L h0 (d + 1) 57 74 [lr l0, ln, li l2, li l3] [vi r4] s3 (qi F)
      refine w_istore_n rfl rfl ?_
      obtain ⟨g5, H⟩ := H
      refine w_iinc rfl rfl rfl g5 ?_
      refine w_goto rfl ?_
      exact wp_ls (sl_s (sl_n (sl_s (sl_s (sl_0))))) H

/-- HoleDesk.addOffer(III)I -/
theorem C58 {iv : List (Int × Int)} {L : Nat} {h0 : MH} {d : Nat} {s : SC} {a0 : Nat} {a1 : Int} {a2 : Int} {a3 : Int} {F : Int → SC → Prop} (H : (kl s a0 = 1) ∧ (kl s (fR s a0 7) = 103) ∧ (0 ≤ a2 ∧ a2 < le s (fR s a0 7)) ∧ (kl s (fR s a0 1) = 8) ∧ (kl s (fR s a0 2) = 3) ∧ ck iv L h0 d 164 [vr (fR s a0 2), vr (aR s (fR s a0 7) a2), vr (fR s (fR s a0 1) 2)] s (qi fun r7 s6 => ((r7 ≠ 0 → (kl s6 a0 = 1) ∧ (kl s6 (fR s6 a0 8) = 100) ∧ (0 ≤ a1 ∧ a1 < le s6 (fR s6 a0 8)) ∧ (kl s6 (fR s6 a0 9) = 100) ∧ (0 ≤ a1 ∧ a1 < le s6 (fR s6 a0 9)) ∧ (-2147483648 ≤ a1 + 1 ∧ a1 + 1 ≤ 2147483647) ∧ F (a1 + 1) (uA (uA s6 (fR s6 a0 8) a1 a2) (fR s6 a0 9) a1 a3)) ∧ (r7 = 0 → F a1 s6)))) : ck iv L h0 (d + 1) 58 [vr a0, vi a1, vi a2, vi a3] s (qi F) := by
  show wk iv L h0 (d + 1) 58 0 [lr a0, li a1, li a2, li a3] [] s (qi F)
  refine w_aload_n rfl rfl ?_
  obtain ⟨g1, H⟩ := H
  refine c_getr rfl rfl rfl g1 ?_
  refine w_aload_n rfl rfl ?_
  refine c_getr rfl rfl rfl g1 ?_
  refine w_iload_n rfl rfl ?_
  obtain ⟨g2, H⟩ := H
  obtain ⟨g3, H⟩ := H
  refine c_aald (t := 3) rfl ⟨g2, by decide, by decide⟩ g3 ?_
  refine w_aload_n rfl rfl ?_
  refine c_getr rfl rfl rfl g1 ?_
  obtain ⟨g4, H⟩ := H
  refine c_getr rfl rfl rfl g4 ?_
  obtain ⟨g5, H⟩ := H
  refine c_virt (p := (fR s a0 2)) (as := [vr (aR s (fR s a0 7) a2), vr (fR s (fR s a0 1) 2)]) (r := []) rfl rfl rfl rfl rfl rfl g5 (wc_mono H (Nat.le_refl _) ?_)
  rintro _ s6 ⟨r7, rfl, H⟩
  show wk iv L h0 (d + 1) 58 20 [lr a0, li a1, li a2, li a3] [vi r7] s6 (qi F)
  refine w_if_ne rfl (fun h => ?_) (fun h => ?_)
  · replace H := H.1 h
    refine w_aload_n rfl rfl ?_
    obtain ⟨g8, H⟩ := H
    refine c_getr rfl rfl rfl g8 ?_
    refine w_iload_n rfl rfl ?_
    refine w_iload_n rfl rfl ?_
    obtain ⟨g9, H⟩ := H
    obtain ⟨g10, H⟩ := H
    refine c_ast rfl g9 g10 ?_
    refine w_aload_n rfl rfl ?_
    refine c_getr rfl rfl rfl g8 ?_
    show wk iv L h0 (d + 1) 58 36 [lr a0, li a1, li a2, li a3] [vr (fR s6 a0 9)] (uA s6 (fR s6 a0 8) a1 a2) (qi F)
    refine w_iload_n rfl rfl ?_
    refine w_iload_n rfl rfl ?_
    obtain ⟨g11, H⟩ := H
    obtain ⟨g12, H⟩ := H
    refine c_ast rfl g11 g12 ?_
    refine w_iload_n rfl rfl ?_
    refine w_iconst (n := 1) rfl rfl ?_
    obtain ⟨g13, H⟩ := H
    refine w_iadd rfl g13 ?_
    exact w_iret rfl rfl ⟨_, rfl, H⟩
  · replace H := H.2 h
    refine w_iload_n rfl rfl ?_
    exact w_iret rfl rfl ⟨_, rfl, H⟩

/-- HoleDesk$Copy.<init>()V -/
theorem C159 {iv : List (Int × Int)} {L : Nat} {h0 : MH} {d : Nat} {s : SC} {a0 : Nat} {F : SC → Prop} (H : (a0 ≠ 2) ∧ (353 ≤ nxt s) ∧ (kl (nA s 0 60) a0 = 2) ∧ (353 ≤ nxt s + 1) ∧ (kl (nA (nA s 0 60) 0 60) a0 = 2) ∧ (353 ≤ nxt s + 2) ∧ (kl (nA (nA (nA s 0 60) 0 60) 0 60) a0 = 2) ∧ (353 ≤ nxt s + 3) ∧ (kl (nA (nA (nA (nA s 0 60) 0 60) 0 60) 0 60) a0 = 2) ∧ (353 ≤ nxt s + 4) ∧ (kl (nA (nA (nA (nA (nA s 0 60) 0 60) 0 60) 0 60) 0 60) a0 = 2) ∧ F (uI (uR (nA (uR (nA (uR (nA (uR (nA (uR (nA s 0 60) a0 0 (nxt s)) 0 60) a0 1 (nxt s + 1)) 0 60) a0 2 (nxt s + 2)) 0 60) a0 3 (nxt s + 3)) 0 60) a0 4 (nxt s + 4)) a0 5 0)) : ck iv L h0 d 159 [vr a0] s (qv F) := by
  show wk iv L h0 d 159 0 [lr a0] [] s (qv F)
  refine w_aload_n rfl rfl ?_
  obtain ⟨g1, H⟩ := H
  refine c_oinit rfl rfl g1 ?_
  refine w_aload_n rfl rfl ?_
  refine w_bipush (n := 60) rfl rfl rfl ?_
  obtain ⟨g2, H⟩ := H
  refine c_newa rfl rfl ⟨by decide, by decide⟩ g2 ?_
  show wk iv L h0 d 159 9 [lr a0] [vr (nxt s), vr a0] (nA s 0 60) (qv F)
  obtain ⟨g3, H⟩ := H
  refine c_putr rfl rfl rfl rfl g3 ?_
  refine w_aload_n rfl rfl ?_
  refine w_bipush (n := 60) rfl rfl rfl ?_
  obtain ⟨g4, H⟩ := H
  refine c_newa rfl rfl ⟨by decide, by decide⟩ g4 ?_
  show wk iv L h0 d 159 17 [lr a0] [vr (nxt s + 1), vr a0] (nA (uR (nA s 0 60) a0 0 (nxt s)) 0 60) (qv F)
  obtain ⟨g5, H⟩ := H
  refine c_putr rfl rfl rfl rfl g5 ?_
  refine w_aload_n rfl rfl ?_
  refine w_bipush (n := 60) rfl rfl rfl ?_
  obtain ⟨g6, H⟩ := H
  refine c_newa rfl rfl ⟨by decide, by decide⟩ g6 ?_
  show wk iv L h0 d 159 25 [lr a0] [vr (nxt s + 2), vr a0] (nA (uR (nA (uR (nA s 0 60) a0 0 (nxt s)) 0 60) a0 1 (nxt s + 1)) 0 60) (qv F)
  obtain ⟨g7, H⟩ := H
  refine c_putr rfl rfl rfl rfl g7 ?_
  refine w_aload_n rfl rfl ?_
  refine w_bipush (n := 60) rfl rfl rfl ?_
  obtain ⟨g8, H⟩ := H
  refine c_newa rfl rfl ⟨by decide, by decide⟩ g8 ?_
  show wk iv L h0 d 159 33 [lr a0] [vr (nxt s + 3), vr a0] (nA (uR (nA (uR (nA (uR (nA s 0 60) a0 0 (nxt s)) 0 60) a0 1 (nxt s + 1)) 0 60) a0 2 (nxt s + 2)) 0 60) (qv F)
  obtain ⟨g9, H⟩ := H
  refine c_putr rfl rfl rfl rfl g9 ?_
  refine w_aload_n rfl rfl ?_
  refine w_bipush (n := 60) rfl rfl rfl ?_
  obtain ⟨g10, H⟩ := H
  refine c_newa rfl rfl ⟨by decide, by decide⟩ g10 ?_
  show wk iv L h0 d 159 41 [lr a0] [vr (nxt s + 4), vr a0] (nA (uR (nA (uR (nA (uR (nA (uR (nA s 0 60) a0 0 (nxt s)) 0 60) a0 1 (nxt s + 1)) 0 60) a0 2 (nxt s + 2)) 0 60) a0 3 (nxt s + 3)) 0 60) (qv F)
  obtain ⟨g11, H⟩ := H
  refine c_putr rfl rfl rfl rfl g11 ?_
  refine w_aload_n rfl rfl ?_
  refine w_iconst (n := 0) rfl rfl ?_
  refine c_put rfl rfl rfl rfl g11 ?_
  exact w_ret rfl rfl ⟨rfl, H⟩
