/-! What the methods of the reference come to. Printed by wip/gen2/gens.py. -/
/-- HoleDeskModel.makePair(III)I -/
theorem B93 {iv : List (Int × Int)} {L : Nat} {h0 : MH} {d : Nat} {s : SM} {a1 : Int} {a2 : Int} {a3 : Int} {F : Int → SM → Prop} (H : ((a1 = (-1) → ((a1 ≠ 0 → ((a1 ≠ 0 → cm iv L h0 d 88 [vr 307, vi a2, vi (-1)] s (qi fun r2 s1 => cm iv L h0 d 88 [vr 307, vi a3, vi (-1)] s1 (qi fun r4 s3 => cm iv L h0 d 65 [vr 307, vi 4, vi r2, vi r4] s3 (qi fun r6 s5 => F r6 s5)))) ∧ (a1 = 0 → cm iv L h0 d 88 [vr 307, vi a2, vi (-1)] s (qi fun r8 s7 => cm iv L h0 d 88 [vr 307, vi a3, vi 0] s7 (qi fun r10 s9 => cm iv L h0 d 65 [vr 307, vi 4, vi r8, vi r10] s9 (qi fun r12 s11 => F r12 s11)))))) ∧ (a1 = 0 → ((a1 ≠ 0 → cm iv L h0 d 88 [vr 307, vi a2, vi 0] s (qi fun r14 s13 => cm iv L h0 d 88 [vr 307, vi a3, vi (-1)] s13 (qi fun r16 s15 => cm iv L h0 d 65 [vr 307, vi 4, vi r14, vi r16] s15 (qi fun r18 s17 => F r18 s17)))) ∧ (a1 = 0 → cm iv L h0 d 88 [vr 307, vi a2, vi 0] s (qi fun r20 s19 => cm iv L h0 d 88 [vr 307, vi a3, vi 0] s19 (qi fun r22 s21 => cm iv L h0 d 65 [vr 307, vi 4, vi r20, vi r22] s21 (qi fun r24 s23 => F r24 s23)))))))) ∧ (a1 ≠ (-1) → (0 ≤ a1 ∧ a1 < 6000) ∧ ((s.2 4 a1 ≠ 4 → ((a1 ≠ 0 → ((a1 ≠ 0 → cm iv L h0 d 88 [vr 307, vi a2, vi (-1)] s (qi fun r27 s26 => cm iv L h0 d 88 [vr 307, vi a3, vi (-1)] s26 (qi fun r29 s28 => cm iv L h0 d 65 [vr 307, vi 4, vi r27, vi r29] s28 (qi fun r31 s30 => F r31 s30)))) ∧ (a1 = 0 → cm iv L h0 d 88 [vr 307, vi a2, vi (-1)] s (qi fun r33 s32 => cm iv L h0 d 88 [vr 307, vi a3, vi 0] s32 (qi fun r35 s34 => cm iv L h0 d 65 [vr 307, vi 4, vi r33, vi r35] s34 (qi fun r37 s36 => F r37 s36)))))) ∧ (a1 = 0 → ((a1 ≠ 0 → cm iv L h0 d 88 [vr 307, vi a2, vi 0] s (qi fun r39 s38 => cm iv L h0 d 88 [vr 307, vi a3, vi (-1)] s38 (qi fun r41 s40 => cm iv L h0 d 65 [vr 307, vi 4, vi r39, vi r41] s40 (qi fun r43 s42 => F r43 s42)))) ∧ (a1 = 0 → cm iv L h0 d 88 [vr 307, vi a2, vi 0] s (qi fun r45 s44 => cm iv L h0 d 88 [vr 307, vi a3, vi 0] s44 (qi fun r47 s46 => cm iv L h0 d 65 [vr 307, vi 4, vi r45, vi r47] s46 (qi fun r49 s48 => F r49 s48)))))))) ∧ (s.2 4 a1 = 4 → cm iv L h0 d 88 [vr 307, vi a2, vi (s.2 5 a1)] s (qi fun r51 s50 => cm iv L h0 d 88 [vr 307, vi a3, vi (s.2 6 a1)] s50 (qi fun r53 s52 => cm iv L h0 d 65 [vr 307, vi 4, vi r51, vi r53] s52 (qi fun r55 s54 => F r55 s54)))))))) : cm iv L h0 (d + 1) 93 [vr 307, vi a1, vi a2, vi a3] s (qi F) := by
  show wm iv L h0 (d + 1) 93 0 [lr 307, li a1, li a2, li a3] [] s (qi F)
  refine w_iload_n rfl rfl ?_
  refine w_iconst (n := (-1)) rfl rfl ?_
  refine w_icmp_eq rfl (fun h => ?_) (fun h => ?_)
  · replace H := H.1 h
    refine w_iconst (n := 0) rfl rfl ?_
    refine w_istore rfl rfl ?_
    refine w_iload rfl rfl ?_
    refine w_if_eq rfl (fun _ => ?_) (fun h => absurd h (by decide))
    refine w_iload_n rfl rfl ?_
    refine w_if_ne rfl (fun h => ?_) (fun h => ?_)
    · replace H := H.1 h
      refine w_iconst (n := (-1)) rfl rfl ?_
      refine w_istore rfl rfl ?_
      refine w_iload rfl rfl ?_
      refine w_if_eq rfl (fun _ => ?_) (fun h => absurd h (by decide))
      refine w_iload_n rfl rfl ?_
      refine w_if_ne rfl (fun h => ?_) (fun h => ?_)
      · replace H := H.1 h
        refine w_iconst (n := (-1)) rfl rfl ?_
        refine w_istore rfl rfl ?_
        refine w_aload_n rfl rfl ?_
        refine w_iload_n rfl rfl ?_
        refine w_iload rfl rfl ?_
        refine m_call (as := [vi a2, vi (-1)]) (r := []) rfl rfl rfl rfl rfl rfl (wc_mono H (Nat.le_refl _) ?_)
        rintro _ s1 ⟨r2, rfl, H⟩
        show wm iv L h0 (d + 1) 93 79 [lr 307, li a1, li a2, li a3, li 0, li (-1), li (-1)] [vi r2] s1 (qi F)
        refine w_istore rfl rfl ?_
        refine w_aload_n rfl rfl ?_
        refine w_iconst (n := 4) rfl rfl ?_
        refine w_iload rfl rfl ?_
        refine w_aload_n rfl rfl ?_
        refine w_iload_n rfl rfl ?_
        refine w_iload rfl rfl ?_
        refine m_call (as := [vi a3, vi (-1)]) (r := [vi r2, vi 4, vr 307]) rfl rfl rfl rfl rfl rfl (wc_mono H (Nat.le_refl _) ?_)
        rintro _ s3 ⟨r4, rfl, H⟩
        show wm iv L h0 (d + 1) 93 92 [lr 307, li a1, li a2, li a3, li 0, li (-1), li (-1), li r2] [vi r4, vi r2, vi 4, vr 307] s3 (qi F)
        refine m_call (as := [vi 4, vi r2, vi r4]) (r := []) rfl rfl rfl rfl rfl rfl (wc_mono H (Nat.le_refl _) ?_)
        rintro _ s5 ⟨r6, rfl, H⟩
        show wm iv L h0 (d + 1) 93 95 [lr 307, li a1, li a2, li a3, li 0, li (-1), li (-1), li r2] [vi r6] s5 (qi F)
        exact w_iret rfl rfl ⟨_, rfl, H⟩
      · replace H := H.2 h
        refine w_iconst (n := 0) rfl rfl ?_
        refine w_goto rfl ?_
        refine w_istore rfl rfl ?_
        refine w_aload_n rfl rfl ?_
        refine w_iload_n rfl rfl ?_
        refine w_iload rfl rfl ?_
        refine m_call (as := [vi a2, vi (-1)]) (r := []) rfl rfl rfl rfl rfl rfl (wc_mono H (Nat.le_refl _) ?_)
        rintro _ s7 ⟨r8, rfl, H⟩
        show wm iv L h0 (d + 1) 93 79 [lr 307, li a1, li a2, li a3, li 0, li (-1), li 0] [vi r8] s7 (qi F)
        refine w_istore rfl rfl ?_
        refine w_aload_n rfl rfl ?_
        refine w_iconst (n := 4) rfl rfl ?_
        refine w_iload rfl rfl ?_
        refine w_aload_n rfl rfl ?_
        refine w_iload_n rfl rfl ?_
        refine w_iload rfl rfl ?_
        refine m_call (as := [vi a3, vi 0]) (r := [vi r8, vi 4, vr 307]) rfl rfl rfl rfl rfl rfl (wc_mono H (Nat.le_refl _) ?_)
        rintro _ s9 ⟨r10, rfl, H⟩
        show wm iv L h0 (d + 1) 93 92 [lr 307, li a1, li a2, li a3, li 0, li (-1), li 0, li r8] [vi r10, vi r8, vi 4, vr 307] s9 (qi F)
        refine m_call (as := [vi 4, vi r8, vi r10]) (r := []) rfl rfl rfl rfl rfl rfl (wc_mono H (Nat.le_refl _) ?_)
        rintro _ s11 ⟨r12, rfl, H⟩
        show wm iv L h0 (d + 1) 93 95 [lr 307, li a1, li a2, li a3, li 0, li (-1), li 0, li r8] [vi r12] s11 (qi F)
        exact w_iret rfl rfl ⟨_, rfl, H⟩
    · replace H := H.2 h
      refine w_iconst (n := 0) rfl rfl ?_
      refine w_goto rfl ?_
      refine w_istore rfl rfl ?_
      refine w_iload rfl rfl ?_
      refine w_if_eq rfl (fun _ => ?_) (fun h => absurd h (by decide))
      refine w_iload_n rfl rfl ?_
      refine w_if_ne rfl (fun h => ?_) (fun h => ?_)
      · replace H := H.1 h
        refine w_iconst (n := (-1)) rfl rfl ?_
        refine w_istore rfl rfl ?_
        refine w_aload_n rfl rfl ?_
        refine w_iload_n rfl rfl ?_
        refine w_iload rfl rfl ?_
        refine m_call (as := [vi a2, vi 0]) (r := []) rfl rfl rfl rfl rfl rfl (wc_mono H (Nat.le_refl _) ?_)
        rintro _ s13 ⟨r14, rfl, H⟩
        show wm iv L h0 (d + 1) 93 79 [lr 307, li a1, li a2, li a3, li 0, li 0, li (-1)] [vi r14] s13 (qi F)
        refine w_istore rfl rfl ?_
        refine w_aload_n rfl rfl ?_
        refine w_iconst (n := 4) rfl rfl ?_
        refine w_iload rfl rfl ?_
        refine w_aload_n rfl rfl ?_
        refine w_iload_n rfl rfl ?_
        refine w_iload rfl rfl ?_
        refine m_call (as := [vi a3, vi (-1)]) (r := [vi r14, vi 4, vr 307]) rfl rfl rfl rfl rfl rfl (wc_mono H (Nat.le_refl _) ?_)
        rintro _ s15 ⟨r16, rfl, H⟩
        show wm iv L h0 (d + 1) 93 92 [lr 307, li a1, li a2, li a3, li 0, li 0, li (-1), li r14] [vi r16, vi r14, vi 4, vr 307] s15 (qi F)
        refine m_call (as := [vi 4, vi r14, vi r16]) (r := []) rfl rfl rfl rfl rfl rfl (wc_mono H (Nat.le_refl _) ?_)
        rintro _ s17 ⟨r18, rfl, H⟩
        show wm iv L h0 (d + 1) 93 95 [lr 307, li a1, li a2, li a3, li 0, li 0, li (-1), li r14] [vi r18] s17 (qi F)
        exact w_iret rfl rfl ⟨_, rfl, H⟩
      · replace H := H.2 h
        refine w_iconst (n := 0) rfl rfl ?_
        refine w_goto rfl ?_
        refine w_istore rfl rfl ?_
        refine w_aload_n rfl rfl ?_
        refine w_iload_n rfl rfl ?_
        refine w_iload rfl rfl ?_
        refine m_call (as := [vi a2, vi 0]) (r := []) rfl rfl rfl rfl rfl rfl (wc_mono H (Nat.le_refl _) ?_)
        rintro _ s19 ⟨r20, rfl, H⟩
        show wm iv L h0 (d + 1) 93 79 [lr 307, li a1, li a2, li a3, li 0, li 0, li 0] [vi r20] s19 (qi F)
        refine w_istore rfl rfl ?_
        refine w_aload_n rfl rfl ?_
        refine w_iconst (n := 4) rfl rfl ?_
        refine w_iload rfl rfl ?_
        refine w_aload_n rfl rfl ?_
        refine w_iload_n rfl rfl ?_
        refine w_iload rfl rfl ?_
        refine m_call (as := [vi a3, vi 0]) (r := [vi r20, vi 4, vr 307]) rfl rfl rfl rfl rfl rfl (wc_mono H (Nat.le_refl _) ?_)
        rintro _ s21 ⟨r22, rfl, H⟩
        show wm iv L h0 (d + 1) 93 92 [lr 307, li a1, li a2, li a3, li 0, li 0, li 0, li r20] [vi r22, vi r20, vi 4, vr 307] s21 (qi F)
        refine m_call (as := [vi 4, vi r20, vi r22]) (r := []) rfl rfl rfl rfl rfl rfl (wc_mono H (Nat.le_refl _) ?_)
        rintro _ s23 ⟨r24, rfl, H⟩
        show wm iv L h0 (d + 1) 93 95 [lr 307, li a1, li a2, li a3, li 0, li 0, li 0, li r20] [vi r24] s23 (qi F)
        exact w_iret rfl rfl ⟨_, rfl, H⟩
  · replace H := H.2 h
    refine w_aload_n rfl rfl ?_
    refine m_geta (t := 0) (k := 6000) rfl rfl ?_
    refine w_iload_n rfl rfl ?_
    obtain ⟨g25, H⟩ := H
    refine m_ald rfl (f := 4) (k := 6000) rfl g25 ?_
    refine w_iconst (n := 4) rfl rfl ?_
    refine w_icmp_ne rfl (fun h => ?_) (fun h => ?_)
    · replace H := H.1 h
      refine w_iconst (n := 0) rfl rfl ?_
      refine w_istore rfl rfl ?_
      refine w_iload rfl rfl ?_
      refine w_if_eq rfl (fun _ => ?_) (fun h => absurd h (by decide))
      refine w_iload_n rfl rfl ?_
      refine w_if_ne rfl (fun h => ?_) (fun h => ?_)
      · replace H := H.1 h
        refine w_iconst (n := (-1)) rfl rfl ?_
        refine w_istore rfl rfl ?_
        refine w_iload rfl rfl ?_
        refine w_if_eq rfl (fun _ => ?_) (fun h => absurd h (by decide))
        refine w_iload_n rfl rfl ?_
        refine w_if_ne rfl (fun h => ?_) (fun h => ?_)
        · replace H := H.1 h
          refine w_iconst (n := (-1)) rfl rfl ?_
          refine w_istore rfl rfl ?_
          refine w_aload_n rfl rfl ?_
          refine w_iload_n rfl rfl ?_
          refine w_iload rfl rfl ?_
          refine m_call (as := [vi a2, vi (-1)]) (r := []) rfl rfl rfl rfl rfl rfl (wc_mono H (Nat.le_refl _) ?_)
          rintro _ s26 ⟨r27, rfl, H⟩
          show wm iv L h0 (d + 1) 93 79 [lr 307, li a1, li a2, li a3, li 0, li (-1), li (-1)] [vi r27] s26 (qi F)
          refine w_istore rfl rfl ?_
          refine w_aload_n rfl rfl ?_
          refine w_iconst (n := 4) rfl rfl ?_
          refine w_iload rfl rfl ?_
          refine w_aload_n rfl rfl ?_
          refine w_iload_n rfl rfl ?_
          refine w_iload rfl rfl ?_
          refine m_call (as := [vi a3, vi (-1)]) (r := [vi r27, vi 4, vr 307]) rfl rfl rfl rfl rfl rfl (wc_mono H (Nat.le_refl _) ?_)
          rintro _ s28 ⟨r29, rfl, H⟩
          show wm iv L h0 (d + 1) 93 92 [lr 307, li a1, li a2, li a3, li 0, li (-1), li (-1), li r27] [vi r29, vi r27, vi 4, vr 307] s28 (qi F)
          refine m_call (as := [vi 4, vi r27, vi r29]) (r := []) rfl rfl rfl rfl rfl rfl (wc_mono H (Nat.le_refl _) ?_)
          rintro _ s30 ⟨r31, rfl, H⟩
          show wm iv L h0 (d + 1) 93 95 [lr 307, li a1, li a2, li a3, li 0, li (-1), li (-1), li r27] [vi r31] s30 (qi F)
          exact w_iret rfl rfl ⟨_, rfl, H⟩
        · replace H := H.2 h
          refine w_iconst (n := 0) rfl rfl ?_
          refine w_goto rfl ?_
          refine w_istore rfl rfl ?_
          refine w_aload_n rfl rfl ?_
          refine w_iload_n rfl rfl ?_
          refine w_iload rfl rfl ?_
          refine m_call (as := [vi a2, vi (-1)]) (r := []) rfl rfl rfl rfl rfl rfl (wc_mono H (Nat.le_refl _) ?_)
          rintro _ s32 ⟨r33, rfl, H⟩
          show wm iv L h0 (d + 1) 93 79 [lr 307, li a1, li a2, li a3, li 0, li (-1), li 0] [vi r33] s32 (qi F)
          refine w_istore rfl rfl ?_
          refine w_aload_n rfl rfl ?_
          refine w_iconst (n := 4) rfl rfl ?_
          refine w_iload rfl rfl ?_
          refine w_aload_n rfl rfl ?_
          refine w_iload_n rfl rfl ?_
          refine w_iload rfl rfl ?_
          refine m_call (as := [vi a3, vi 0]) (r := [vi r33, vi 4, vr 307]) rfl rfl rfl rfl rfl rfl (wc_mono H (Nat.le_refl _) ?_)
          rintro _ s34 ⟨r35, rfl, H⟩
          show wm iv L h0 (d + 1) 93 92 [lr 307, li a1, li a2, li a3, li 0, li (-1), li 0, li r33] [vi r35, vi r33, vi 4, vr 307] s34 (qi F)
          refine m_call (as := [vi 4, vi r33, vi r35]) (r := []) rfl rfl rfl rfl rfl rfl (wc_mono H (Nat.le_refl _) ?_)
          rintro _ s36 ⟨r37, rfl, H⟩
          show wm iv L h0 (d + 1) 93 95 [lr 307, li a1, li a2, li a3, li 0, li (-1), li 0, li r33] [vi r37] s36 (qi F)
          exact w_iret rfl rfl ⟨_, rfl, H⟩
      · replace H := H.2 h
        refine w_iconst (n := 0) rfl rfl ?_
        refine w_goto rfl ?_
        refine w_istore rfl rfl ?_
        refine w_iload rfl rfl ?_
        refine w_if_eq rfl (fun _ => ?_) (fun h => absurd h (by decide))
        refine w_iload_n rfl rfl ?_
        refine w_if_ne rfl (fun h => ?_) (fun h => ?_)
        · replace H := H.1 h
          refine w_iconst (n := (-1)) rfl rfl ?_
          refine w_istore rfl rfl ?_
          refine w_aload_n rfl rfl ?_
          refine w_iload_n rfl rfl ?_
          refine w_iload rfl rfl ?_
          refine m_call (as := [vi a2, vi 0]) (r := []) rfl rfl rfl rfl rfl rfl (wc_mono H (Nat.le_refl _) ?_)
          rintro _ s38 ⟨r39, rfl, H⟩
          show wm iv L h0 (d + 1) 93 79 [lr 307, li a1, li a2, li a3, li 0, li 0, li (-1)] [vi r39] s38 (qi F)
          refine w_istore rfl rfl ?_
          refine w_aload_n rfl rfl ?_
          refine w_iconst (n := 4) rfl rfl ?_
          refine w_iload rfl rfl ?_
          refine w_aload_n rfl rfl ?_
          refine w_iload_n rfl rfl ?_
          refine w_iload rfl rfl ?_
          refine m_call (as := [vi a3, vi (-1)]) (r := [vi r39, vi 4, vr 307]) rfl rfl rfl rfl rfl rfl (wc_mono H (Nat.le_refl _) ?_)
          rintro _ s40 ⟨r41, rfl, H⟩
          show wm iv L h0 (d + 1) 93 92 [lr 307, li a1, li a2, li a3, li 0, li 0, li (-1), li r39] [vi r41, vi r39, vi 4, vr 307] s40 (qi F)
          refine m_call (as := [vi 4, vi r39, vi r41]) (r := []) rfl rfl rfl rfl rfl rfl (wc_mono H (Nat.le_refl _) ?_)
          rintro _ s42 ⟨r43, rfl, H⟩
          show wm iv L h0 (d + 1) 93 95 [lr 307, li a1, li a2, li a3, li 0, li 0, li (-1), li r39] [vi r43] s42 (qi F)
          exact w_iret rfl rfl ⟨_, rfl, H⟩
        · replace H := H.2 h
          refine w_iconst (n := 0) rfl rfl ?_
          refine w_goto rfl ?_
          refine w_istore rfl rfl ?_
          refine w_aload_n rfl rfl ?_
          refine w_iload_n rfl rfl ?_
          refine w_iload rfl rfl ?_
          refine m_call (as := [vi a2, vi 0]) (r := []) rfl rfl rfl rfl rfl rfl (wc_mono H (Nat.le_refl _) ?_)
          rintro _ s44 ⟨r45, rfl, H⟩
          show wm iv L h0 (d + 1) 93 79 [lr 307, li a1, li a2, li a3, li 0, li 0, li 0] [vi r45] s44 (qi F)
          refine w_istore rfl rfl ?_
          refine w_aload_n rfl rfl ?_
          refine w_iconst (n := 4) rfl rfl ?_
          refine w_iload rfl rfl ?_
          refine w_aload_n rfl rfl ?_
          refine w_iload_n rfl rfl ?_
          refine w_iload rfl rfl ?_
          refine m_call (as := [vi a3, vi 0]) (r := [vi r45, vi 4, vr 307]) rfl rfl rfl rfl rfl rfl (wc_mono H (Nat.le_refl _) ?_)
          rintro _ s46 ⟨r47, rfl, H⟩
          show wm iv L h0 (d + 1) 93 92 [lr 307, li a1, li a2, li a3, li 0, li 0, li 0, li r45] [vi r47, vi r45, vi 4, vr 307] s46 (qi F)
          refine m_call (as := [vi 4, vi r45, vi r47]) (r := []) rfl rfl rfl rfl rfl rfl (wc_mono H (Nat.le_refl _) ?_)
          rintro _ s48 ⟨r49, rfl, H⟩
          show wm iv L h0 (d + 1) 93 95 [lr 307, li a1, li a2, li a3, li 0, li 0, li 0, li r45] [vi r49] s48 (qi F)
          exact w_iret rfl rfl ⟨_, rfl, H⟩
    · replace H := H.2 h
      refine w_iconst (n := 1) rfl rfl ?_
      refine w_goto rfl ?_
      refine w_istore rfl rfl ?_
      refine w_iload rfl rfl ?_
      refine w_if_eq rfl (fun h => absurd h (by decide)) (fun _ => ?_)
      refine w_aload_n rfl rfl ?_
      refine m_geta (t := 0) (k := 6000) rfl rfl ?_
      refine w_iload_n rfl rfl ?_
      refine m_ald rfl (f := 5) (k := 6000) rfl g25 ?_
      refine w_goto rfl ?_
      refine w_istore rfl rfl ?_
      refine w_iload rfl rfl ?_
      refine w_if_eq rfl (fun h => absurd h (by decide)) (fun _ => ?_)
      refine w_aload_n rfl rfl ?_
      refine m_geta (t := 0) (k := 6000) rfl rfl ?_
      refine w_iload_n rfl rfl ?_
      refine m_ald rfl (f := 6) (k := 6000) rfl g25 ?_
      refine w_goto rfl ?_
      refine w_istore rfl rfl ?_
      refine w_aload_n rfl rfl ?_
      refine w_iload_n rfl rfl ?_
      refine w_iload rfl rfl ?_
      refine m_call (as := [vi a2, vi (s.2 5 a1)]) (r := []) rfl rfl rfl rfl rfl rfl (wc_mono H (Nat.le_refl _) ?_)
      rintro _ s50 ⟨r51, rfl, H⟩
      show wm iv L h0 (d + 1) 93 79 [lr 307, li a1, li a2, li a3, li 1, li (s.2 5 a1), li (s.2 6 a1)] [vi r51] s50 (qi F)
      refine w_istore rfl rfl ?_
      refine w_aload_n rfl rfl ?_
      refine w_iconst (n := 4) rfl rfl ?_
      refine w_iload rfl rfl ?_
      refine w_aload_n rfl rfl ?_
      refine w_iload_n rfl rfl ?_
      refine w_iload rfl rfl ?_
      refine m_call (as := [vi a3, vi (s.2 6 a1)]) (r := [vi r51, vi 4, vr 307]) rfl rfl rfl rfl rfl rfl (wc_mono H (Nat.le_refl _) ?_)
      rintro _ s52 ⟨r53, rfl, H⟩
      show wm iv L h0 (d + 1) 93 92 [lr 307, li a1, li a2, li a3, li 1, li (s.2 5 a1), li (s.2 6 a1), li r51] [vi r53, vi r51, vi 4, vr 307] s52 (qi F)
      refine m_call (as := [vi 4, vi r51, vi r53]) (r := []) rfl rfl rfl rfl rfl rfl (wc_mono H (Nat.le_refl _) ?_)
      rintro _ s54 ⟨r55, rfl, H⟩
      show wm iv L h0 (d + 1) 93 95 [lr 307, li a1, li a2, li a3, li 1, li (s.2 5 a1), li (s.2 6 a1), li r51] [vi r55] s54 (qi F)
      exact w_iret rfl rfl ⟨_, rfl, H⟩

/-- HoleDeskModel.told(II)I -/
theorem B94 {iv : List (Int × Int)} {L : Nat} {h0 : MH} {d : Nat} {s : SM} {a1 : Int} {a2 : Int} {F : Int → SM → Prop} (H : cm iv L h0 d 80 [vr 307, vi a1] s (qi fun r2 s1 => ((r2 = 0 → F (-1) s1) ∧ (r2 ≠ 0 → ((0 ≤ a2 ∧ a2 ≤ 6 → ((a2 = 0 → (0 ≤ a1 ∧ a1 < 3004) ∧ F (s1.2 9 a1) s1) ∧ (a2 = 1 → (0 ≤ a1 ∧ a1 < 3004) ∧ F (s1.2 10 a1) s1) ∧ (a2 = 2 → (0 ≤ a1 ∧ a1 < 3004) ∧ F (s1.2 11 a1) s1) ∧ (a2 = 3 → (0 ≤ a1 ∧ a1 < 3004) ∧ F (s1.2 12 a1) s1) ∧ (a2 = 4 → (0 ≤ a1 ∧ a1 < 3004) ∧ F (s1.2 13 a1) s1) ∧ (a2 = 5 → (0 ≤ a1 ∧ a1 < 3004) ∧ (0 ≤ s1.2 9 a1 ∧ s1.2 9 a1 < 16) ∧ F (pO (s1.2 9 a1)) s1) ∧ (a2 < 0 ∨ 5 < a2 → cm iv L h0 d 86 [vr 307] s1 (qv fun s10 => (0 ≤ a1 ∧ a1 < 3004) ∧ F (s10.2 21 a1) s10)))) ∧ (a2 < 0 ∨ 6 < a2 → F (-1) s1)))))) : cm iv L h0 (d + 1) 94 [vr 307, vi a1, vi a2] s (qi F) := by
  show wm iv L h0 (d + 1) 94 0 [lr 307, li a1, li a2] [] s (qi F)
  refine w_aload_n rfl rfl ?_
  refine w_iload_n rfl rfl ?_
  refine m_call (as := [vi a1]) (r := []) rfl rfl rfl rfl rfl rfl (wc_mono H (Nat.le_refl _) ?_)
  rintro _ s1 ⟨r2, rfl, H⟩
  show wm iv L h0 (d + 1) 94 5 [lr 307, li a1, li a2] [vi r2] s1 (qi F)
  refine w_if_eq rfl (fun h => ?_) (fun h => ?_)
  · replace H := H.1 h
    refine w_iconst (n := (-1)) rfl rfl ?_
    exact w_iret rfl rfl ⟨_, rfl, H⟩
  · replace H := H.2 h
    refine w_iload_n rfl rfl ?_
    refine w_iconst (n := 0) rfl rfl ?_
    refine w_bipush (n := 6) rfl rfl rfl ?_
    refine w_static (as := [vi a2, vi 0, vi 6]) (r := []) rfl rfl rfl rfl rfl (m_in (fun h => ?_) (fun h => ?_))
    · show wm iv L h0 (d + 1) 94 15 [lr 307, li a1, li a2] [vi 1] s1 (qi F)
      replace H := H.1 h
      refine w_if_ne rfl (fun _ => ?_) (fun h => absurd h (by decide))
      refine w_iload_n rfl rfl ?_
      have J60 : (a2 = 0) → wm iv L h0 (d + 1) 94 60 [lr 307, li a1, li a2] [] s1 (qi F) := fun h => by
        replace H := H.1 h
        refine w_aload_n rfl rfl ?_
        refine m_geta (t := 0) (k := 3004) rfl rfl ?_
        refine w_iload_n rfl rfl ?_
        obtain ⟨g3, H⟩ := H
        refine m_ald rfl (f := 9) (k := 3004) rfl g3 ?_
        exact w_iret rfl rfl ⟨_, rfl, H⟩
      have J67 : (a2 = 1) → wm iv L h0 (d + 1) 94 67 [lr 307, li a1, li a2] [] s1 (qi F) := fun h => by
        replace H := H.2.1 h
        refine w_aload_n rfl rfl ?_
        refine m_geta (t := 0) (k := 3004) rfl rfl ?_
        refine w_iload_n rfl rfl ?_
        obtain ⟨g4, H⟩ := H
        refine m_ald rfl (f := 10) (k := 3004) rfl g4 ?_
        exact w_iret rfl rfl ⟨_, rfl, H⟩
      have J74 : (a2 = 2) → wm iv L h0 (d + 1) 94 74 [lr 307, li a1, li a2] [] s1 (qi F) := fun h => by
        replace H := H.2.2.1 h
        refine w_aload_n rfl rfl ?_
        refine m_geta (t := 0) (k := 3004) rfl rfl ?_
        refine w_iload_n rfl rfl ?_
        obtain ⟨g5, H⟩ := H
        refine m_ald rfl (f := 11) (k := 3004) rfl g5 ?_
        exact w_iret rfl rfl ⟨_, rfl, H⟩
      have J81 : (a2 = 3) → wm iv L h0 (d + 1) 94 81 [lr 307, li a1, li a2] [] s1 (qi F) := fun h => by
        replace H := H.2.2.2.1 h
        refine w_aload_n rfl rfl ?_
        refine m_geta (t := 0) (k := 3004) rfl rfl ?_
        refine w_iload_n rfl rfl ?_
        obtain ⟨g6, H⟩ := H
        refine m_ald rfl (f := 12) (k := 3004) rfl g6 ?_
        exact w_iret rfl rfl ⟨_, rfl, H⟩
      have J88 : (a2 = 4) → wm iv L h0 (d + 1) 94 88 [lr 307, li a1, li a2] [] s1 (qi F) := fun h => by
        replace H := H.2.2.2.2.1 h
        refine w_aload_n rfl rfl ?_
        refine m_geta (t := 0) (k := 3004) rfl rfl ?_
        refine w_iload_n rfl rfl ?_
        obtain ⟨g7, H⟩ := H
        refine m_ald rfl (f := 13) (k := 3004) rfl g7 ?_
        exact w_iret rfl rfl ⟨_, rfl, H⟩
      have J95 : (a2 = 5) → wm iv L h0 (d + 1) 94 95 [lr 307, li a1, li a2] [] s1 (qi F) := fun h => by
        replace H := H.2.2.2.2.2.1 h
        refine w_aload_n rfl rfl ?_
        refine m_geta (t := 0) (k := 3004) rfl rfl ?_
        refine w_iload_n rfl rfl ?_
        obtain ⟨g8, H⟩ := H
        refine m_ald rfl (f := 9) (k := 3004) rfl g8 ?_
        obtain ⟨g9, H⟩ := H
        refine w_static (as := [vi (s1.2 9 a1)]) (r := []) rfl rfl rfl rfl rfl (m_parts g9 ?_)
        show wm iv L h0 (d + 1) 94 104 [lr 307, li a1, li a2] [vi (pO (s1.2 9 a1))] s1 (qi F)
        exact w_iret rfl rfl ⟨_, rfl, H⟩
      have J105 : (a2 < 0 ∨ 5 < a2) → wm iv L h0 (d + 1) 94 105 [lr 307, li a1, li a2] [] s1 (qi F) := fun h => by
        replace H := H.2.2.2.2.2.2 h
        refine w_aload_n rfl rfl ?_
        refine m_call (as := []) (r := []) rfl rfl rfl rfl rfl rfl (wc_mono H (Nat.le_refl _) ?_)
        rintro _ s10 ⟨rfl, H⟩
        show wm iv L h0 (d + 1) 94 109 [lr 307, li a1, li a2] [] s10 (qi F)
        refine w_aload_n rfl rfl ?_
        refine m_geta (t := 0) (k := 3004) rfl rfl ?_
        refine w_iload_n rfl rfl ?_
        obtain ⟨g11, H⟩ := H
        refine m_ald rfl (f := 21) (k := 3004) rfl g11 ?_
        exact w_iret rfl rfl ⟨_, rfl, H⟩
      refine w_tsw (td := 105) (ts := [60, 67, 74, 81, 88, 95]) rfl rfl rfl rfl rfl rfl (fun h => J105 (by omega)) ?_
      exact swA_c (fun h => J60 (by omega)) (swA_c (fun h => J67 (by omega)) (swA_c (fun h => J74 (by omega)) (swA_c (fun h => J81 (by omega)) (swA_c (fun h => J88 (by omega)) (swA_c (fun h => J95 (by omega)) (swA_n))))))
    · show wm iv L h0 (d + 1) 94 15 [lr 307, li a1, li a2] [vi 0] s1 (qi F)
      replace H := H.2 h
      refine w_if_ne rfl (fun h => absurd h (by decide)) (fun _ => ?_)
      refine w_iconst (n := (-1)) rfl rfl ?_
      exact w_iret rfl rfl ⟨_, rfl, H⟩

/-- HoleDeskModel.part(II)I -/
theorem B95 {iv : List (Int × Int)} {L : Nat} {h0 : MH} {d : Nat} {s : SM} {a1 : Int} {a2 : Int} {F : Int → SM → Prop} (H : cm iv L h0 d 80 [vr 307, vi a1] s (qi fun r2 s1 => ((r2 ≠ 0 → (0 ≤ a1 ∧ a1 < 3004) ∧ (0 ≤ s1.2 9 a1 ∧ s1.2 9 a1 < 16) ∧ (-2147483648 ≤ (pO (s1.2 9 a1)) - 1 ∧ (pO (s1.2 9 a1)) - 1 ≤ 2147483647) ∧ ((0 ≤ a2 ∧ a2 ≤ (pO (s1.2 9 a1)) - 1 → (-2147483648 ≤ 3 * a1 ∧ 3 * a1 ≤ 2147483647) ∧ (-2147483648 ≤ (3 * a1) + a2 ∧ (3 * a1) + a2 ≤ 2147483647) ∧ (0 ≤ (3 * a1) + a2 ∧ (3 * a1) + a2 < 9012) ∧ F (s1.2 14 ((3 * a1) + a2)) s1) ∧ (a2 < 0 ∨ (pO (s1.2 9 a1)) - 1 < a2 → cm iv L h0 d 61 [vr 307, vi 2] s1 (qi fun r10 s9 => F r10 s9)))) ∧ (r2 = 0 → F (-1) s1)))) : cm iv L h0 (d + 1) 95 [vr 307, vi a1, vi a2] s (qi F) := by
  show wm iv L h0 (d + 1) 95 0 [lr 307, li a1, li a2] [] s (qi F)
  refine w_aload_n rfl rfl ?_
  refine w_iload_n rfl rfl ?_
  refine m_call (as := [vi a1]) (r := []) rfl rfl rfl rfl rfl rfl (wc_mono H (Nat.le_refl _) ?_)
  rintro _ s1 ⟨r2, rfl, H⟩
  show wm iv L h0 (d + 1) 95 5 [lr 307, li a1, li a2] [vi r2] s1 (qi F)
  refine w_if_ne rfl (fun h => ?_) (fun h => ?_)
  · replace H := H.1 h
    refine w_iload_n rfl rfl ?_
    refine w_iconst (n := 0) rfl rfl ?_
    refine w_aload_n rfl rfl ?_
    refine m_geta (t := 0) (k := 3004) rfl rfl ?_
    refine w_iload_n rfl rfl ?_
    obtain ⟨g3, H⟩ := H
    refine m_ald rfl (f := 9) (k := 3004) rfl g3 ?_
    obtain ⟨g4, H⟩ := H
    refine w_static (as := [vi (s1.2 9 a1)]) (r := [vi 0, vi a2]) rfl rfl rfl rfl rfl (m_parts g4 ?_)
    show wm iv L h0 (d + 1) 95 21 [lr 307, li a1, li a2] [vi (pO (s1.2 9 a1)), vi 0, vi a2] s1 (qi F)
    refine w_iconst (n := 1) rfl rfl ?_
    obtain ⟨g5, H⟩ := H
    refine w_isub rfl g5 ?_
    refine w_static (as := [vi a2, vi 0, vi ((pO (s1.2 9 a1)) - 1)]) (r := []) rfl rfl rfl rfl rfl (m_in (fun h => ?_) (fun h => ?_))
    · show wm iv L h0 (d + 1) 95 26 [lr 307, li a1, li a2] [vi 1] s1 (qi F)
      replace H := H.1 h
      refine w_if_eq rfl (fun h => absurd h (by decide)) (fun _ => ?_)
      refine w_aload_n rfl rfl ?_
      refine m_geta (t := 0) (k := 9012) rfl rfl ?_
      refine w_iconst (n := 3) rfl rfl ?_
      refine w_iload_n rfl rfl ?_
      obtain ⟨g6, H⟩ := H
      refine w_imul rfl g6 ?_
      refine w_iload_n rfl rfl ?_
      obtain ⟨g7, H⟩ := H
      refine w_iadd rfl g7 ?_
      obtain ⟨g8, H⟩ := H
      refine m_ald rfl (f := 14) (k := 9012) rfl g8 ?_
      refine w_goto rfl ?_
      exact w_iret rfl rfl ⟨_, rfl, H⟩
    · show wm iv L h0 (d + 1) 95 26 [lr 307, li a1, li a2] [vi 0] s1 (qi F)
      replace H := H.2 h
      refine w_if_eq rfl (fun _ => ?_) (fun h => absurd h (by decide))
      refine w_aload_n rfl rfl ?_
      refine w_iconst (n := 2) rfl rfl ?_
      refine m_call (as := [vi 2]) (r := []) rfl rfl rfl rfl rfl rfl (wc_mono H (Nat.le_refl _) ?_)
      rintro _ s9 ⟨r10, rfl, H⟩
      show wm iv L h0 (d + 1) 95 47 [lr 307, li a1, li a2] [vi r10] s9 (qi F)
      exact w_iret rfl rfl ⟨_, rfl, H⟩
  · replace H := H.2 h
    refine w_iconst (n := (-1)) rfl rfl ?_
    exact w_iret rfl rfl ⟨_, rfl, H⟩

/-- HoleDeskModel.spell(I)V -/
theorem B96 {iv : List (Int × Int)} {L : Nat} {h0 : MH} {d : Nat} {s : SM} {a1 : Int} {F : SM → Prop} (H : (0 ≤ a1 ∧ a1 < 6000) ∧ ((s.2 4 a1 ≠ 0 → ((s.2 4 a1 ≠ 1 → ((s.2 4 a1 ≠ 2 → ((s.2 4 a1 ≠ 3 → (0 ≤ s.1 23 ∧ s.1 23 < 64) ∧ (-128 ≤ w8 112 ∧ w8 112 ≤ 127) ∧ (-2147483648 ≤ (s.1 23) + 1 ∧ (s.1 23) + 1 ≤ 2147483647) ∧ ((s.2 4 a1 < 3 → F (us (ua s 22 (s.1 23) (w8 112)) 23 ((s.1 23) + 1))) ∧ (3 ≤ s.2 4 a1 → cm iv L h0 d 96 [vr 307, vi (s.2 5 a1)] (us (ua s 22 (s.1 23) (w8 112)) 23 ((s.1 23) + 1)) (qv fun s5 => cm iv L h0 d 96 [vr 307, vi (s5.2 6 a1)] s5 (qv fun s6 => F s6))))) ∧ (s.2 4 a1 = 3 → (0 ≤ s.1 23 ∧ s.1 23 < 64) ∧ (-128 ≤ w8 102 ∧ w8 102 ≤ 127) ∧ (-2147483648 ≤ (s.1 23) + 1 ∧ (s.1 23) + 1 ≤ 2147483647) ∧ ((s.2 4 a1 < 3 → F (us (ua s 22 (s.1 23) (w8 102)) 23 ((s.1 23) + 1))) ∧ (3 ≤ s.2 4 a1 → cm iv L h0 d 96 [vr 307, vi (s.2 5 a1)] (us (ua s 22 (s.1 23) (w8 102)) 23 ((s.1 23) + 1)) (qv fun s10 => cm iv L h0 d 96 [vr 307, vi (s10.2 6 a1)] s10 (qv fun s11 => F s11))))))) ∧ (s.2 4 a1 = 2 → (0 ≤ s.1 23 ∧ s.1 23 < 64) ∧ (-128 ≤ w8 116 ∧ w8 116 ≤ 127) ∧ (-2147483648 ≤ (s.1 23) + 1 ∧ (s.1 23) + 1 ≤ 2147483647) ∧ ((s.2 4 a1 < 3 → F (us (ua s 22 (s.1 23) (w8 116)) 23 ((s.1 23) + 1))) ∧ (3 ≤ s.2 4 a1 → cm iv L h0 d 96 [vr 307, vi (s.2 5 a1)] (us (ua s 22 (s.1 23) (w8 116)) 23 ((s.1 23) + 1)) (qv fun s15 => cm iv L h0 d 96 [vr 307, vi (s15.2 6 a1)] s15 (qv fun s16 => F s16))))))) ∧ (s.2 4 a1 = 1 → (0 ≤ s.1 23 ∧ s.1 23 < 64) ∧ (-128 ≤ w8 119 ∧ w8 119 ≤ 127) ∧ (-2147483648 ≤ (s.1 23) + 1 ∧ (s.1 23) + 1 ≤ 2147483647) ∧ ((s.2 4 a1 < 3 → F (us (ua s 22 (s.1 23) (w8 119)) 23 ((s.1 23) + 1))) ∧ (3 ≤ s.2 4 a1 → cm iv L h0 d 96 [vr 307, vi (s.2 5 a1)] (us (ua s 22 (s.1 23) (w8 119)) 23 ((s.1 23) + 1)) (qv fun s20 => cm iv L h0 d 96 [vr 307, vi (s20.2 6 a1)] s20 (qv fun s21 => F s21))))))) ∧ (s.2 4 a1 = 0 → (0 ≤ s.1 23 ∧ s.1 23 < 64) ∧ (-128 ≤ w8 63 ∧ w8 63 ≤ 127) ∧ (-2147483648 ≤ (s.1 23) + 1 ∧ (s.1 23) + 1 ≤ 2147483647) ∧ ((s.2 4 a1 < 3 → F (us (ua s 22 (s.1 23) (w8 63)) 23 ((s.1 23) + 1))) ∧ (3 ≤ s.2 4 a1 → cm iv L h0 d 96 [vr 307, vi (s.2 5 a1)] (us (ua s 22 (s.1 23) (w8 63)) 23 ((s.1 23) + 1)) (qv fun s25 => cm iv L h0 d 96 [vr 307, vi (s25.2 6 a1)] s25 (qv fun s26 => F s26))))))) : cm iv L h0 (d + 1) 96 [vr 307, vi a1] s (qv F) := by
  show wm iv L h0 (d + 1) 96 0 [lr 307, li a1] [] s (qv F)
  refine w_aload_n rfl rfl ?_
  refine m_geta (t := 1) (k := 64) rfl rfl ?_
  refine w_aload_n rfl rfl ?_
  refine m_get rfl rfl ?_
  refine w_aload_n rfl rfl ?_
  refine m_geta (t := 0) (k := 6000) rfl rfl ?_
  refine w_iload_n rfl rfl ?_
  obtain ⟨g1, H⟩ := H
  refine m_ald rfl (f := 4) (k := 6000) rfl g1 ?_
  refine w_if_ne rfl (fun h => ?_) (fun h => ?_)
  · replace H := H.1 h
    refine w_aload_n rfl rfl ?_
    refine m_geta (t := 0) (k := 6000) rfl rfl ?_
    refine w_iload_n rfl rfl ?_
    refine m_ald rfl (f := 4) (k := 6000) rfl g1 ?_
    refine w_iconst (n := 1) rfl rfl ?_
    refine w_icmp_ne rfl (fun h => ?_) (fun h => ?_)
    · replace H := H.1 h
      refine w_aload_n rfl rfl ?_
      refine m_geta (t := 0) (k := 6000) rfl rfl ?_
      refine w_iload_n rfl rfl ?_
      refine m_ald rfl (f := 4) (k := 6000) rfl g1 ?_
      refine w_iconst (n := 2) rfl rfl ?_
      refine w_icmp_ne rfl (fun h => ?_) (fun h => ?_)
      · replace H := H.1 h
        refine w_aload_n rfl rfl ?_
        refine m_geta (t := 0) (k := 6000) rfl rfl ?_
        refine w_iload_n rfl rfl ?_
        refine m_ald rfl (f := 4) (k := 6000) rfl g1 ?_
        refine w_iconst (n := 3) rfl rfl ?_
        refine w_icmp_ne rfl (fun h => ?_) (fun h => ?_)
        · replace H := H.1 h
          refine w_bipush (n := 112) rfl rfl rfl ?_
          refine w_i2b rfl ?_
          obtain ⟨g2, H⟩ := H
          obtain ⟨g3, H⟩ := H
          refine m_bast (t := 1) rfl (f := 22) (k := 64) rfl g2 (Or.inl ⟨rfl, g3⟩) ?_
          refine w_aload_n rfl rfl ?_
          refine w_dup rfl rfl ?_
          refine m_get rfl rfl ?_
          show wm iv L h0 (d + 1) 96 76 [lr 307, li a1] [vi (s.1 23), vr 307] (ua s 22 (s.1 23) (w8 112)) (qv F)
          refine w_iconst (n := 1) rfl rfl ?_
          obtain ⟨g4, H⟩ := H
          refine w_iadd rfl g4 ?_
          refine m_put rfl rfl rfl ?_
          refine w_aload_n rfl rfl ?_
          refine m_geta (t := 0) (k := 6000) rfl rfl ?_
          refine w_iload_n rfl rfl ?_
          refine m_ald rfl (f := 4) (k := 6000) rfl g1 ?_
          show wm iv L h0 (d + 1) 96 87 [lr 307, li a1] [vi (s.2 4 a1)] (us (ua s 22 (s.1 23) (w8 112)) 23 ((s.1 23) + 1)) (qv F)
          refine w_iconst (n := 3) rfl rfl ?_
          refine w_icmp_lt rfl (fun h => ?_) (fun h => ?_)
          · replace H := H.1 h
            exact w_ret rfl rfl ⟨rfl, H⟩
          · replace H := H.2 h
            refine w_aload_n rfl rfl ?_
            refine w_aload_n rfl rfl ?_
            refine m_geta (t := 0) (k := 6000) rfl rfl ?_
            refine w_iload_n rfl rfl ?_
            refine m_ald rfl (f := 5) (k := 6000) rfl g1 ?_
            show wm iv L h0 (d + 1) 96 98 [lr 307, li a1] [vi (s.2 5 a1), vr 307] (us (ua s 22 (s.1 23) (w8 112)) 23 ((s.1 23) + 1)) (qv F)
            refine m_call (as := [vi (s.2 5 a1)]) (r := []) rfl rfl rfl rfl rfl rfl (wc_mono H (Nat.le_refl _) ?_)
            rintro _ s5 ⟨rfl, H⟩
            show wm iv L h0 (d + 1) 96 101 [lr 307, li a1] [] s5 (qv F)
            refine w_aload_n rfl rfl ?_
            refine w_aload_n rfl rfl ?_
            refine m_geta (t := 0) (k := 6000) rfl rfl ?_
            refine w_iload_n rfl rfl ?_
            refine m_ald rfl (f := 6) (k := 6000) rfl g1 ?_
            refine m_call (as := [vi (s5.2 6 a1)]) (r := []) rfl rfl rfl rfl rfl rfl (wc_mono H (Nat.le_refl _) ?_)
            rintro _ s6 ⟨rfl, H⟩
            show wm iv L h0 (d + 1) 96 111 [lr 307, li a1] [] s6 (qv F)
            exact w_ret rfl rfl ⟨rfl, H⟩
        · replace H := H.2 h
          refine w_bipush (n := 102) rfl rfl rfl ?_
          refine w_goto rfl ?_
          refine w_i2b rfl ?_
          obtain ⟨g7, H⟩ := H
          obtain ⟨g8, H⟩ := H
          refine m_bast (t := 1) rfl (f := 22) (k := 64) rfl g7 (Or.inl ⟨rfl, g8⟩) ?_
          refine w_aload_n rfl rfl ?_
          refine w_dup rfl rfl ?_
          refine m_get rfl rfl ?_
          show wm iv L h0 (d + 1) 96 76 [lr 307, li a1] [vi (s.1 23), vr 307] (ua s 22 (s.1 23) (w8 102)) (qv F)
          refine w_iconst (n := 1) rfl rfl ?_
          obtain ⟨g9, H⟩ := H
          refine w_iadd rfl g9 ?_
          refine m_put rfl rfl rfl ?_
          refine w_aload_n rfl rfl ?_
          refine m_geta (t := 0) (k := 6000) rfl rfl ?_
          refine w_iload_n rfl rfl ?_
          refine m_ald rfl (f := 4) (k := 6000) rfl g1 ?_
          show wm iv L h0 (d + 1) 96 87 [lr 307, li a1] [vi (s.2 4 a1)] (us (ua s 22 (s.1 23) (w8 102)) 23 ((s.1 23) + 1)) (qv F)
          refine w_iconst (n := 3) rfl rfl ?_
          refine w_icmp_lt rfl (fun h => ?_) (fun h => ?_)
          · replace H := H.1 h
            exact w_ret rfl rfl ⟨rfl, H⟩
          · replace H := H.2 h
            refine w_aload_n rfl rfl ?_
            refine w_aload_n rfl rfl ?_
            refine m_geta (t := 0) (k := 6000) rfl rfl ?_
            refine w_iload_n rfl rfl ?_
            refine m_ald rfl (f := 5) (k := 6000) rfl g1 ?_
            show wm iv L h0 (d + 1) 96 98 [lr 307, li a1] [vi (s.2 5 a1), vr 307] (us (ua s 22 (s.1 23) (w8 102)) 23 ((s.1 23) + 1)) (qv F)
            refine m_call (as := [vi (s.2 5 a1)]) (r := []) rfl rfl rfl rfl rfl rfl (wc_mono H (Nat.le_refl _) ?_)
            rintro _ s10 ⟨rfl, H⟩
            show wm iv L h0 (d + 1) 96 101 [lr 307, li a1] [] s10 (qv F)
            refine w_aload_n rfl rfl ?_
            refine w_aload_n rfl rfl ?_
            refine m_geta (t := 0) (k := 6000) rfl rfl ?_
            refine w_iload_n rfl rfl ?_
            refine m_ald rfl (f := 6) (k := 6000) rfl g1 ?_
            refine m_call (as := [vi (s10.2 6 a1)]) (r := []) rfl rfl rfl rfl rfl rfl (wc_mono H (Nat.le_refl _) ?_)
            rintro _ s11 ⟨rfl, H⟩
            show wm iv L h0 (d + 1) 96 111 [lr 307, li a1] [] s11 (qv F)
            exact w_ret rfl rfl ⟨rfl, H⟩
      · replace H := H.2 h
        refine w_bipush (n := 116) rfl rfl rfl ?_
        refine w_goto rfl ?_
        refine w_i2b rfl ?_
        obtain ⟨g12, H⟩ := H
        obtain ⟨g13, H⟩ := H
        refine m_bast (t := 1) rfl (f := 22) (k := 64) rfl g12 (Or.inl ⟨rfl, g13⟩) ?_
        refine w_aload_n rfl rfl ?_
        refine w_dup rfl rfl ?_
        refine m_get rfl rfl ?_
        show wm iv L h0 (d + 1) 96 76 [lr 307, li a1] [vi (s.1 23), vr 307] (ua s 22 (s.1 23) (w8 116)) (qv F)
        refine w_iconst (n := 1) rfl rfl ?_
        obtain ⟨g14, H⟩ := H
        refine w_iadd rfl g14 ?_
        refine m_put rfl rfl rfl ?_
        refine w_aload_n rfl rfl ?_
        refine m_geta (t := 0) (k := 6000) rfl rfl ?_
        refine w_iload_n rfl rfl ?_
        refine m_ald rfl (f := 4) (k := 6000) rfl g1 ?_
        show wm iv L h0 (d + 1) 96 87 [lr 307, li a1] [vi (s.2 4 a1)] (us (ua s 22 (s.1 23) (w8 116)) 23 ((s.1 23) + 1)) (qv F)
        refine w_iconst (n := 3) rfl rfl ?_
        refine w_icmp_lt rfl (fun h => ?_) (fun h => ?_)
        · replace H := H.1 h
          exact w_ret rfl rfl ⟨rfl, H⟩
        · replace H := H.2 h
          refine w_aload_n rfl rfl ?_
          refine w_aload_n rfl rfl ?_
          refine m_geta (t := 0) (k := 6000) rfl rfl ?_
          refine w_iload_n rfl rfl ?_
          refine m_ald rfl (f := 5) (k := 6000) rfl g1 ?_
          show wm iv L h0 (d + 1) 96 98 [lr 307, li a1] [vi (s.2 5 a1), vr 307] (us (ua s 22 (s.1 23) (w8 116)) 23 ((s.1 23) + 1)) (qv F)
          refine m_call (as := [vi (s.2 5 a1)]) (r := []) rfl rfl rfl rfl rfl rfl (wc_mono H (Nat.le_refl _) ?_)
          rintro _ s15 ⟨rfl, H⟩
          show wm iv L h0 (d + 1) 96 101 [lr 307, li a1] [] s15 (qv F)
          refine w_aload_n rfl rfl ?_
          refine w_aload_n rfl rfl ?_
          refine m_geta (t := 0) (k := 6000) rfl rfl ?_
          refine w_iload_n rfl rfl ?_
          refine m_ald rfl (f := 6) (k := 6000) rfl g1 ?_
          refine m_call (as := [vi (s15.2 6 a1)]) (r := []) rfl rfl rfl rfl rfl rfl (wc_mono H (Nat.le_refl _) ?_)
          rintro _ s16 ⟨rfl, H⟩
          show wm iv L h0 (d + 1) 96 111 [lr 307, li a1] [] s16 (qv F)
          exact w_ret rfl rfl ⟨rfl, H⟩
    · replace H := H.2 h
      refine w_bipush (n := 119) rfl rfl rfl ?_
      refine w_goto rfl ?_
      refine w_i2b rfl ?_
      obtain ⟨g17, H⟩ := H
      obtain ⟨g18, H⟩ := H
      refine m_bast (t := 1) rfl (f := 22) (k := 64) rfl g17 (Or.inl ⟨rfl, g18⟩) ?_
      refine w_aload_n rfl rfl ?_
      refine w_dup rfl rfl ?_
      refine m_get rfl rfl ?_
      show wm iv L h0 (d + 1) 96 76 [lr 307, li a1] [vi (s.1 23), vr 307] (ua s 22 (s.1 23) (w8 119)) (qv F)
      refine w_iconst (n := 1) rfl rfl ?_
      obtain ⟨g19, H⟩ := H
      refine w_iadd rfl g19 ?_
      refine m_put rfl rfl rfl ?_
      refine w_aload_n rfl rfl ?_
      refine m_geta (t := 0) (k := 6000) rfl rfl ?_
      refine w_iload_n rfl rfl ?_
      refine m_ald rfl (f := 4) (k := 6000) rfl g1 ?_
      show wm iv L h0 (d + 1) 96 87 [lr 307, li a1] [vi (s.2 4 a1)] (us (ua s 22 (s.1 23) (w8 119)) 23 ((s.1 23) + 1)) (qv F)
      refine w_iconst (n := 3) rfl rfl ?_
      refine w_icmp_lt rfl (fun h => ?_) (fun h => ?_)
      · replace H := H.1 h
        exact w_ret rfl rfl ⟨rfl, H⟩
      · replace H := H.2 h
        refine w_aload_n rfl rfl ?_
        refine w_aload_n rfl rfl ?_
        refine m_geta (t := 0) (k := 6000) rfl rfl ?_
        refine w_iload_n rfl rfl ?_
        refine m_ald rfl (f := 5) (k := 6000) rfl g1 ?_
        show wm iv L h0 (d + 1) 96 98 [lr 307, li a1] [vi (s.2 5 a1), vr 307] (us (ua s 22 (s.1 23) (w8 119)) 23 ((s.1 23) + 1)) (qv F)
        refine m_call (as := [vi (s.2 5 a1)]) (r := []) rfl rfl rfl rfl rfl rfl (wc_mono H (Nat.le_refl _) ?_)
        rintro _ s20 ⟨rfl, H⟩
        show wm iv L h0 (d + 1) 96 101 [lr 307, li a1] [] s20 (qv F)
        refine w_aload_n rfl rfl ?_
        refine w_aload_n rfl rfl ?_
        refine m_geta (t := 0) (k := 6000) rfl rfl ?_
        refine w_iload_n rfl rfl ?_
        refine m_ald rfl (f := 6) (k := 6000) rfl g1 ?_
        refine m_call (as := [vi (s20.2 6 a1)]) (r := []) rfl rfl rfl rfl rfl rfl (wc_mono H (Nat.le_refl _) ?_)
        rintro _ s21 ⟨rfl, H⟩
        show wm iv L h0 (d + 1) 96 111 [lr 307, li a1] [] s21 (qv F)
        exact w_ret rfl rfl ⟨rfl, H⟩
  · replace H := H.2 h
    refine w_bipush (n := 63) rfl rfl rfl ?_
    refine w_goto rfl ?_
    refine w_i2b rfl ?_
    obtain ⟨g22, H⟩ := H
    obtain ⟨g23, H⟩ := H
    refine m_bast (t := 1) rfl (f := 22) (k := 64) rfl g22 (Or.inl ⟨rfl, g23⟩) ?_
    refine w_aload_n rfl rfl ?_
    refine w_dup rfl rfl ?_
    refine m_get rfl rfl ?_
    show wm iv L h0 (d + 1) 96 76 [lr 307, li a1] [vi (s.1 23), vr 307] (ua s 22 (s.1 23) (w8 63)) (qv F)
    refine w_iconst (n := 1) rfl rfl ?_
    obtain ⟨g24, H⟩ := H
    refine w_iadd rfl g24 ?_
    refine m_put rfl rfl rfl ?_
    refine w_aload_n rfl rfl ?_
    refine m_geta (t := 0) (k := 6000) rfl rfl ?_
    refine w_iload_n rfl rfl ?_
    refine m_ald rfl (f := 4) (k := 6000) rfl g1 ?_
    show wm iv L h0 (d + 1) 96 87 [lr 307, li a1] [vi (s.2 4 a1)] (us (ua s 22 (s.1 23) (w8 63)) 23 ((s.1 23) + 1)) (qv F)
    refine w_iconst (n := 3) rfl rfl ?_
    refine w_icmp_lt rfl (fun h => ?_) (fun h => ?_)
    · replace H := H.1 h
      exact w_ret rfl rfl ⟨rfl, H⟩
    · replace H := H.2 h
      refine w_aload_n rfl rfl ?_
      refine w_aload_n rfl rfl ?_
      refine m_geta (t := 0) (k := 6000) rfl rfl ?_
      refine w_iload_n rfl rfl ?_
      refine m_ald rfl (f := 5) (k := 6000) rfl g1 ?_
      show wm iv L h0 (d + 1) 96 98 [lr 307, li a1] [vi (s.2 5 a1), vr 307] (us (ua s 22 (s.1 23) (w8 63)) 23 ((s.1 23) + 1)) (qv F)
      refine m_call (as := [vi (s.2 5 a1)]) (r := []) rfl rfl rfl rfl rfl rfl (wc_mono H (Nat.le_refl _) ?_)
      rintro _ s25 ⟨rfl, H⟩
      show wm iv L h0 (d + 1) 96 101 [lr 307, li a1] [] s25 (qv F)
      refine w_aload_n rfl rfl ?_
      refine w_aload_n rfl rfl ?_
      refine m_geta (t := 0) (k := 6000) rfl rfl ?_
      refine w_iload_n rfl rfl ?_
      refine m_ald rfl (f := 6) (k := 6000) rfl g1 ?_
      refine m_call (as := [vi (s25.2 6 a1)]) (r := []) rfl rfl rfl rfl rfl rfl (wc_mono H (Nat.le_refl _) ?_)
      rintro _ s26 ⟨rfl, H⟩
      show wm iv L h0 (d + 1) 96 111 [lr 307, li a1] [] s26 (qv F)
      exact w_ret rfl rfl ⟨rfl, H⟩

/-- HoleDeskModel.sign(IZI)I -/
theorem B97 {iv : List (Int × Int)} {L : Nat} {h0 : MH} {d : Nat} {s : SM} {a1 : Int} {a2 : Int} {a3 : Int} {F : Int → SM → Prop} (H : cm iv L h0 d 80 [vr 307, vi a1] s (qi fun r2 s1 => ((r2 = 0 → F (-1) s1) ∧ (r2 ≠ 0 → ((0 ≤ a3 → cm iv L h0 d 86 [vr 307] s1 (qv fun s3 => ((a2 = 0 → (0 ≤ a1 ∧ a1 < 3004) ∧ ((s3.2 19 a1 ≠ (-1) → cm iv L h0 d 96 [vr 307, vi (s3.2 19 a1)] (us s3 23 0) (qv fun s5 => ((s5.1 23 ≤ a3 → F (-9) s5) ∧ (a3 < s5.1 23 → (0 ≤ a3 ∧ a3 < 64) ∧ F (s5.2 22 a3) s5)))) ∧ (s3.2 19 a1 = (-1) → F (-9) s3))) ∧ (a2 ≠ 0 → (0 ≤ a1 ∧ a1 < 3004) ∧ ((s3.2 20 a1 ≠ (-1) → cm iv L h0 d 96 [vr 307, vi (s3.2 20 a1)] (us s3 23 0) (qv fun s8 => ((s8.1 23 ≤ a3 → F (-9) s8) ∧ (a3 < s8.1 23 → (0 ≤ a3 ∧ a3 < 64) ∧ F (s8.2 22 a3) s8)))) ∧ (s3.2 20 a1 = (-1) → F (-9) s3)))))) ∧ (a3 < 0 → F (-1) s1)))))) : cm iv L h0 (d + 1) 97 [vr 307, vi a1, vi a2, vi a3] s (qi F) := by
  show wm iv L h0 (d + 1) 97 0 [lr 307, li a1, li a2, li a3] [] s (qi F)
  refine w_aload_n rfl rfl ?_
  refine w_iload_n rfl rfl ?_
  refine m_call (as := [vi a1]) (r := []) rfl rfl rfl rfl rfl rfl (wc_mono H (Nat.le_refl _) ?_)
  rintro _ s1 ⟨r2, rfl, H⟩
  show wm iv L h0 (d + 1) 97 5 [lr 307, li a1, li a2, li a3] [vi r2] s1 (qi F)
  refine w_if_eq rfl (fun h => ?_) (fun h => ?_)
  · replace H := H.1 h
    refine w_iconst (n := (-1)) rfl rfl ?_
    exact w_iret rfl rfl ⟨_, rfl, H⟩
  · replace H := H.2 h
    refine w_iload_n rfl rfl ?_
    refine w_if_ge rfl (fun h => ?_) (fun h => ?_)
    · replace H := H.1 h
      refine w_aload_n rfl rfl ?_
      refine m_call (as := []) (r := []) rfl rfl rfl rfl rfl rfl (wc_mono H (Nat.le_refl _) ?_)
      rintro _ s3 ⟨rfl, H⟩
      show wm iv L h0 (d + 1) 97 18 [lr 307, li a1, li a2, li a3] [] s3 (qi F)
      refine w_iload_n rfl rfl ?_
      refine w_if_eq rfl (fun h => ?_) (fun h => ?_)
      · replace H := H.1 h
        refine w_aload_n rfl rfl ?_
        refine m_geta (t := 0) (k := 3004) rfl rfl ?_
        refine w_iload_n rfl rfl ?_
        obtain ⟨g4, H⟩ := H
        refine m_ald rfl (f := 19) (k := 3004) rfl g4 ?_
        refine w_istore rfl rfl ?_
        refine w_iload rfl rfl ?_
        refine w_iconst (n := (-1)) rfl rfl ?_
        refine w_icmp_ne rfl (fun h => ?_) (fun h => ?_)
        · replace H := H.1 h
          refine w_aload_n rfl rfl ?_
          refine w_iconst (n := 0) rfl rfl ?_
          refine m_put rfl rfl rfl ?_
          refine w_aload_n rfl rfl ?_
          refine w_iload rfl rfl ?_
          refine m_call (as := [vi (s3.2 19 a1)]) (r := []) rfl rfl rfl rfl rfl rfl (wc_mono H (Nat.le_refl _) ?_)
          rintro _ s5 ⟨rfl, H⟩
          show wm iv L h0 (d + 1) 97 59 [lr 307, li a1, li a2, li a3, li (s3.2 19 a1)] [] s5 (qi F)
          refine w_iload_n rfl rfl ?_
          refine w_aload_n rfl rfl ?_
          refine m_get rfl rfl ?_
          refine w_icmp_ge rfl (fun h => ?_) (fun h => ?_)
          · replace H := H.1 h
            refine w_bipush (n := (-9)) rfl rfl rfl ?_
            exact w_iret rfl rfl ⟨_, rfl, H⟩
          · replace H := H.2 h
            refine w_aload_n rfl rfl ?_
            refine m_geta (t := 1) (k := 64) rfl rfl ?_
            refine w_iload_n rfl rfl ?_
            obtain ⟨g6, H⟩ := H
            refine m_bald (t := 1) rfl (f := 22) (k := 64) rfl g6 ?_
            refine w_goto rfl ?_
            exact w_iret rfl rfl ⟨_, rfl, H⟩
        · replace H := H.2 h
          refine w_bipush (n := (-9)) rfl rfl rfl ?_
          exact w_iret rfl rfl ⟨_, rfl, H⟩
      · replace H := H.2 h
        refine w_aload_n rfl rfl ?_
        refine m_geta (t := 0) (k := 3004) rfl rfl ?_
        refine w_iload_n rfl rfl ?_
        obtain ⟨g7, H⟩ := H
        refine m_ald rfl (f := 20) (k := 3004) rfl g7 ?_
        refine w_goto rfl ?_
        refine w_istore rfl rfl ?_
        refine w_iload rfl rfl ?_
        refine w_iconst (n := (-1)) rfl rfl ?_
        refine w_icmp_ne rfl (fun h => ?_) (fun h => ?_)
        · replace H := H.1 h
          refine w_aload_n rfl rfl ?_
          refine w_iconst (n := 0) rfl rfl ?_
          refine m_put rfl rfl rfl ?_
          refine w_aload_n rfl rfl ?_
          refine w_iload rfl rfl ?_
          refine m_call (as := [vi (s3.2 20 a1)]) (r := []) rfl rfl rfl rfl rfl rfl (wc_mono H (Nat.le_refl _) ?_)
          rintro _ s8 ⟨rfl, H⟩
          show wm iv L h0 (d + 1) 97 59 [lr 307, li a1, li a2, li a3, li (s3.2 20 a1)] [] s8 (qi F)
          refine w_iload_n rfl rfl ?_
          refine w_aload_n rfl rfl ?_
          refine m_get rfl rfl ?_
          refine w_icmp_ge rfl (fun h => ?_) (fun h => ?_)
          · replace H := H.1 h
            refine w_bipush (n := (-9)) rfl rfl rfl ?_
            exact w_iret rfl rfl ⟨_, rfl, H⟩
          · replace H := H.2 h
            refine w_aload_n rfl rfl ?_
            refine m_geta (t := 1) (k := 64) rfl rfl ?_
            refine w_iload_n rfl rfl ?_
            obtain ⟨g9, H⟩ := H
            refine m_bald (t := 1) rfl (f := 22) (k := 64) rfl g9 ?_
            refine w_goto rfl ?_
            exact w_iret rfl rfl ⟨_, rfl, H⟩
        · replace H := H.2 h
          refine w_bipush (n := (-9)) rfl rfl rfl ?_
          exact w_iret rfl rfl ⟨_, rfl, H⟩
    · replace H := H.2 h
      refine w_iconst (n := (-1)) rfl rfl ?_
      exact w_iret rfl rfl ⟨_, rfl, H⟩

/-- HoleDeskModel.hole(IZ)I -/
theorem B98 {iv : List (Int × Int)} {L : Nat} {h0 : MH} {d : Nat} {s : SM} {a1 : Int} {a2 : Int} {F : Int → SM → Prop} (H : cm iv L h0 d 86 [vr 307] s (qv fun s1 => cm iv L h0 d 79 [vr 307] s1 (qv fun s2 => wm iv L h0 (d + 1) 98 13 [lr 307, li a1, li a2, li a1, li 0] [] s2 (qi F)))) : cm iv L h0 (d + 1) 98 [vr 307, vi a1, vi a2] s (qi F) := by
  show wm iv L h0 (d + 1) 98 0 [lr 307, li a1, li a2] [] s (qi F)
  refine w_aload_n rfl rfl ?_
  refine m_call (as := []) (r := []) rfl rfl rfl rfl rfl rfl (wc_mono H (Nat.le_refl _) ?_)
  rintro _ s1 ⟨rfl, H⟩
  show wm iv L h0 (d + 1) 98 4 [lr 307, li a1, li a2] [] s1 (qi F)
  refine w_aload_n rfl rfl ?_
  refine m_call (as := []) (r := []) rfl rfl rfl rfl rfl rfl (wc_mono H (Nat.le_refl _) ?_)
  rintro _ s2 ⟨rfl, H⟩
  show wm iv L h0 (d + 1) 98 8 [lr 307, li a1, li a2] [] s2 (qi F)
  refine w_iload_n rfl rfl ?_
  refine w_istore_n rfl rfl ?_
  refine w_iconst (n := 0) rfl rfl ?_
  refine w_istore rfl rfl ?_
  exact wp_ls (sl_s (sl_s (sl_s (sl_s (sl_s (sl_0)))))) H

/-- HoleDeskModel.hole(IZ)I at 13 -/
theorem B98_13 {iv : List (Int × Int)} {L : Nat} {h0 : MH} {d : Nat} {s : SM} {l1 : Int} {l2 : Int} {l3 : Int} {l4 : Int} {F : Int → SM → Prop} (H : ((s.1 18 ≤ l4 → F (-9) s) ∧ (l4 < s.1 18 → ((l1 < 0 → F (-9) s) ∧ (0 ≤ l1 → ((l2 = 0 → (0 ≤ l4 ∧ l4 < 80) ∧ (0 ≤ s.2 17 l4 ∧ s.2 17 l4 < 3004) ∧ ((s.2 9 (s.2 17 l4) ≠ 0 → (-2147483648 ≤ l4 + 1 ∧ l4 + 1 ≤ 2147483647) ∧ wm iv L h0 (d + 1) 98 13 [lr 307, li l1, li l2, li l3, li (l4 + 1)] [] s (qi F)) ∧ (s.2 9 (s.2 17 l4) = 0 → ((l3 ≠ 0 → (-2147483648 ≤ l3 - 1 ∧ l3 - 1 ≤ 2147483647) ∧ (-2147483648 ≤ l4 + 1 ∧ l4 + 1 ≤ 2147483647) ∧ wm iv L h0 (d + 1) 98 13 [lr 307, li l1, li l2, li (l3 - 1), li (l4 + 1)] [] s (qi F)) ∧ (l3 = 0 → F (s.2 17 l4) s))))) ∧ (l2 ≠ 0 → (0 ≤ l4 ∧ l4 < 80) ∧ (0 ≤ s.2 17 l4 ∧ s.2 17 l4 < 3004) ∧ ((s.2 21 (s.2 17 l4) ≤ 0 → (-2147483648 ≤ l4 + 1 ∧ l4 + 1 ≤ 2147483647) ∧ wm iv L h0 (d + 1) 98 13 [lr 307, li l1, li l2, li l3, li (l4 + 1)] [] s (qi F)) ∧ (0 < s.2 21 (s.2 17 l4) → ((l3 ≠ 0 → (-2147483648 ≤ l3 - 1 ∧ l3 - 1 ≤ 2147483647) ∧ (-2147483648 ≤ l4 + 1 ∧ l4 + 1 ≤ 2147483647) ∧ wm iv L h0 (d + 1) 98 13 [lr 307, li l1, li l2, li (l3 - 1), li (l4 + 1)] [] s (qi F)) ∧ (l3 = 0 → F (s.2 17 l4) s))))))))))) : wm iv L h0 (d + 1) 98 13 [lr 307, li l1, li l2, li l3, li l4] [] s (qi F) := by
  refine w_iload rfl rfl ?_
  refine w_aload_n rfl rfl ?_
  refine m_get rfl rfl ?_
  refine w_icmp_ge rfl (fun h => ?_) (fun h => ?_)
  · replace H := H.1 h
    refine w_bipush (n := (-9)) rfl rfl rfl ?_
    exact w_iret rfl rfl ⟨_, rfl, H⟩
  · replace H := H.2 h
    refine w_iload_n rfl rfl ?_
    refine w_if_lt rfl (fun h => ?_) (fun h => ?_)
    · replace H := H.1 h
      refine w_bipush (n := (-9)) rfl rfl rfl ?_
      exact w_iret rfl rfl ⟨_, rfl, H⟩
    · replace H := H.2 h
      refine w_iload_n rfl rfl ?_
      refine w_if_eq rfl (fun h => ?_) (fun h => ?_)
      · replace H := H.1 h
        refine w_aload_n rfl rfl ?_
        refine m_geta (t := 0) (k := 3004) rfl rfl ?_
        refine w_aload_n rfl rfl ?_
        refine m_geta (t := 0) (k := 80) rfl rfl ?_
        refine w_iload rfl rfl ?_
        obtain ⟨g1, H⟩ := H
        refine m_ald rfl (f := 17) (k := 80) rfl g1 ?_
        obtain ⟨g2, H⟩ := H
        refine m_ald rfl (f := 9) (k := 3004) rfl g2 ?_
        refine w_if_ne rfl (fun h => ?_) (fun h => ?_)
        · replace H := H.1 h
          obtain ⟨g3, H⟩ := H
          refine w_iinc rfl rfl rfl g3 ?_
          refine w_goto rfl ?_
          exact wp_ls (sl_s (sl_s (sl_s (sl_s (sl_s (sl_0)))))) H
        · replace H := H.2 h
          refine w_iload_n rfl rfl ?_
          refine w_if_ne rfl (fun h => ?_) (fun h => ?_)
          · replace H := H.1 h
            obtain ⟨g4, H⟩ := H
            refine w_iinc rfl rfl rfl g4 ?_
            show wm iv L h0 (d + 1) 98 78 [lr 307, li l1, li l2, li (l3 - 1), li l4] [] s (qi F)
            obtain ⟨g5, H⟩ := H
            refine w_iinc rfl rfl rfl g5 ?_
            refine w_goto rfl ?_
            exact wp_ls (sl_s (sl_s (sl_s (sl_s (sl_s (sl_0)))))) H
          · replace H := H.2 h
            refine w_aload_n rfl rfl ?_
            refine m_geta (t := 0) (k := 80) rfl rfl ?_
            refine w_iload rfl rfl ?_
            refine m_ald rfl (f := 17) (k := 80) rfl g1 ?_
            exact w_iret rfl rfl ⟨_, rfl, H⟩
      · replace H := H.2 h
        refine w_aload_n rfl rfl ?_
        refine m_geta (t := 0) (k := 3004) rfl rfl ?_
        refine w_aload_n rfl rfl ?_
        refine m_geta (t := 0) (k := 80) rfl rfl ?_
        refine w_iload rfl rfl ?_
        obtain ⟨g6, H⟩ := H
        refine m_ald rfl (f := 17) (k := 80) rfl g6 ?_
        obtain ⟨g7, H⟩ := H
        refine m_ald rfl (f := 21) (k := 3004) rfl g7 ?_
        refine w_if_le rfl (fun h => ?_) (fun h => ?_)
        · replace H := H.1 h
          obtain ⟨g8, H⟩ := H
          refine w_iinc rfl rfl rfl g8 ?_
          refine w_goto rfl ?_
          exact wp_ls (sl_s (sl_s (sl_s (sl_s (sl_s (sl_0)))))) H
        · replace H := H.2 h
          refine w_goto rfl ?_
          refine w_iload_n rfl rfl ?_
          refine w_if_ne rfl (fun h => ?_) (fun h => ?_)
          · replace H := H.1 h
            obtain ⟨g9, H⟩ := H
            refine w_iinc rfl rfl rfl g9 ?_
            show wm iv L h0 (d + 1) 98 78 [lr 307, li l1, li l2, li (l3 - 1), li l4] [] s (qi F)
            obtain ⟨g10, H⟩ := H
            refine w_iinc rfl rfl rfl g10 ?_
            refine w_goto rfl ?_
            exact wp_ls (sl_s (sl_s (sl_s (sl_s (sl_s (sl_0)))))) H
          · replace H := H.2 h
            refine w_aload_n rfl rfl ?_
            refine m_geta (t := 0) (k := 80) rfl rfl ?_
            refine w_iload rfl rfl ?_
            refine m_ald rfl (f := 17) (k := 80) rfl g6 ?_
            exact w_iret rfl rfl ⟨_, rfl, H⟩

/-- HoleDeskModel.beginAct()V -/
theorem B99 {iv : List (Int × Int)} {L : Nat} {h0 : MH} {d : Nat} {s : SM} {F : SM → Prop} (H : cm iv L h0 d 79 [vr 307] s (qv fun s1 => wm iv L h0 (d + 1) 99 22 [lr 307, li 0] [] (us (us s1 30 (s1.1 18)) 31 (s1.1 16)) (qv F))) : cm iv L h0 (d + 1) 99 [vr 307] s (qv F) := by
  show wm iv L h0 (d + 1) 99 0 [lr 307] [] s (qv F)
  refine w_aload_n rfl rfl ?_
  refine m_call (as := []) (r := []) rfl rfl rfl rfl rfl rfl (wc_mono H (Nat.le_refl _) ?_)
  rintro _ s1 ⟨rfl, H⟩
  show wm iv L h0 (d + 1) 99 4 [lr 307] [] s1 (qv F)
  refine w_aload_n rfl rfl ?_
  refine w_aload_n rfl rfl ?_
  refine m_get rfl rfl ?_
  refine m_put rfl rfl rfl ?_
  refine w_aload_n rfl rfl ?_
  refine w_aload_n rfl rfl ?_
  refine m_get rfl rfl ?_
  show wm iv L h0 (d + 1) 99 17 [lr 307] [vi (s1.1 16), vr 307] (us s1 30 (s1.1 18)) (qv F)
  refine m_put rfl rfl rfl ?_
  refine w_iconst (n := 0) rfl rfl ?_
  refine w_istore_n rfl rfl ?_
  exact wp_ls (sl_s (sl_s (sl_0))) H

/-- HoleDeskModel.beginAct()V at 22 -/
theorem B99_22 {iv : List (Int × Int)} {L : Nat} {h0 : MH} {d : Nat} {s : SM} {l1 : Int} {F : SM → Prop} (H : ((s.1 18 ≤ l1 → F s) ∧ (l1 < s.1 18 → (0 ≤ l1 ∧ l1 < 80) ∧ (0 ≤ s.2 17 l1 ∧ s.2 17 l1 < 3004) ∧ wm iv L h0 (d + 1) 99 61 [lr 307, li l1, li 0] [] (ua (ua s 32 l1 (s.2 17 l1)) 33 l1 (s.2 10 (s.2 17 l1))) (qv F)))) : wm iv L h0 (d + 1) 99 22 [lr 307, li l1] [] s (qv F) := by
  refine w_iload_n rfl rfl ?_
  refine w_aload_n rfl rfl ?_
  refine m_get rfl rfl ?_
  refine w_icmp_ge rfl (fun h => ?_) (fun h => ?_)
  · replace H := H.1 h
    exact w_ret rfl rfl ⟨rfl, H⟩
  · replace H := H.2 h
    refine w_aload_n rfl rfl ?_
    refine m_geta (t := 0) (k := 80) rfl rfl ?_
    refine w_iload_n rfl rfl ?_
    refine w_aload_n rfl rfl ?_
    refine m_geta (t := 0) (k := 80) rfl rfl ?_
    refine w_iload_n rfl rfl ?_
    obtain ⟨g1, H⟩ := H
    refine m_ald rfl (f := 17) (k := 80) rfl g1 ?_
    refine m_ast rfl (f := 32) (k := 80) rfl g1 ?_
    refine w_aload_n rfl rfl ?_
    refine m_geta (t := 0) (k := 80) rfl rfl ?_
    refine w_iload_n rfl rfl ?_
    refine w_aload_n rfl rfl ?_
    refine m_geta (t := 0) (k := 3004) rfl rfl ?_
    refine w_aload_n rfl rfl ?_
    refine m_geta (t := 0) (k := 80) rfl rfl ?_
    refine w_iload_n rfl rfl ?_
    refine m_ald rfl (f := 17) (k := 80) rfl g1 ?_
    show wm iv L h0 (d + 1) 99 57 [lr 307, li l1] [vi (s.2 17 l1), vr 314, vi l1, vr 330] (ua s 32 l1 (s.2 17 l1)) (qv F)
    obtain ⟨g2, H⟩ := H
    refine m_ald rfl (f := 10) (k := 3004) rfl g2 ?_
    show wm iv L h0 (d + 1) 99 58 [lr 307, li l1] [vi (s.2 10 (s.2 17 l1)), vi l1, vr 330] (ua s 32 l1 (s.2 17 l1)) (qv F)
    refine m_ast rfl (f := 33) (k := 80) rfl g1 ?_
    refine w_iconst (n := 0) rfl rfl ?_
    refine w_istore_n rfl rfl ?_
    exact wp_ls (sl_s (sl_s (sl_s (sl_0)))) H

/-- HoleDeskModel.beginAct()V at 61 -/
theorem B99_61 {iv : List (Int × Int)} {L : Nat} {h0 : MH} {d : Nat} {s : SM} {l1 : Int} {l2 : Int} {F : SM → Prop} (H : ((3 ≤ l2 → (-2147483648 ≤ l1 + 1 ∧ l1 + 1 ≤ 2147483647) ∧ wm iv L h0 (d + 1) 99 22 [lr 307, li (l1 + 1)] [] s (qv F)) ∧ (l2 < 3 → (-2147483648 ≤ 3 * l1 ∧ 3 * l1 ≤ 2147483647) ∧ (-2147483648 ≤ (3 * l1) + l2 ∧ (3 * l1) + l2 ≤ 2147483647) ∧ (0 ≤ l1 ∧ l1 < 80) ∧ (-2147483648 ≤ 3 * (s.2 17 l1) ∧ 3 * (s.2 17 l1) ≤ 2147483647) ∧ (-2147483648 ≤ (3 * (s.2 17 l1)) + l2 ∧ (3 * (s.2 17 l1)) + l2 ≤ 2147483647) ∧ (0 ≤ (3 * (s.2 17 l1)) + l2 ∧ (3 * (s.2 17 l1)) + l2 < 9012) ∧ (0 ≤ (3 * l1) + l2 ∧ (3 * l1) + l2 < 240) ∧ (-2147483648 ≤ l2 + 1 ∧ l2 + 1 ≤ 2147483647) ∧ wm iv L h0 (d + 1) 99 61 [lr 307, li l1, li (l2 + 1)] [] (ua s 34 ((3 * l1) + l2) (s.2 14 ((3 * (s.2 17 l1)) + l2))) (qv F)))) : wm iv L h0 (d + 1) 99 61 [lr 307, li l1, li l2] [] s (qv F) := by
  refine w_iload_n rfl rfl ?_
  refine w_iconst (n := 3) rfl rfl ?_
  refine w_icmp_ge rfl (fun h => ?_) (fun h => ?_)
  · replace H := H.1 h
    obtain ⟨g1, H⟩ := H
    refine w_iinc rfl rfl rfl g1 ?_
    refine w_goto rfl ?_
    exact wp_ls (sl_s (sl_s (sl_0))) H
  · replace H := H.2 h
    refine w_aload_n rfl rfl ?_
    refine m_geta (t := 0) (k := 240) rfl rfl ?_
    refine w_iconst (n := 3) rfl rfl ?_
    refine w_iload_n rfl rfl ?_
    obtain ⟨g2, H⟩ := H
    refine w_imul rfl g2 ?_
    refine w_iload_n rfl rfl ?_
    obtain ⟨g3, H⟩ := H
    refine w_iadd rfl g3 ?_
    refine w_aload_n rfl rfl ?_
    refine m_geta (t := 0) (k := 9012) rfl rfl ?_
    refine w_iconst (n := 3) rfl rfl ?_
    refine w_aload_n rfl rfl ?_
    refine m_geta (t := 0) (k := 80) rfl rfl ?_
    refine w_iload_n rfl rfl ?_
    obtain ⟨g4, H⟩ := H
    refine m_ald rfl (f := 17) (k := 80) rfl g4 ?_
    obtain ⟨g5, H⟩ := H
    refine w_imul rfl g5 ?_
    refine w_iload_n rfl rfl ?_
    obtain ⟨g6, H⟩ := H
    refine w_iadd rfl g6 ?_
    obtain ⟨g7, H⟩ := H
    refine m_ald rfl (f := 14) (k := 9012) rfl g7 ?_
    obtain ⟨g8, H⟩ := H
    refine m_ast rfl (f := 34) (k := 240) rfl g8 ?_
    obtain ⟨g9, H⟩ := H
    refine w_iinc rfl rfl rfl g9 ?_
    refine w_goto rfl ?_
    exact wp_ls (sl_s (sl_s (sl_s (sl_0)))) H

/-- HoleDeskModel.endAct(Z)V -/
theorem B100 {iv : List (Int × Int)} {L : Nat} {h0 : MH} {d : Nat} {s : SM} {a1 : Int} {F : SM → Prop} (H : ((s.1 24 ≠ 20 → (0 ≤ s.1 24 ∧ s.1 24 < 20) ∧ wm iv L h0 d 100 165 [lr 307, li a1, li 0] [] (ua (ua s 25 (s.1 24) (s.1 30)) 26 (s.1 24) (s.1 31)) (qv F)) ∧ (s.1 24 = 20 → wm iv L h0 d 100 11 [lr 307, li a1, li 1] [] s (qv F)))) : cm iv L h0 d 100 [vr 307, vi a1] s (qv F) := by
  show wm iv L h0 d 100 0 [lr 307, li a1] [] s (qv F)
  refine w_aload_n rfl rfl ?_
  refine m_get rfl rfl ?_
  refine w_bipush (n := 20) rfl rfl rfl ?_
  refine w_icmp_ne rfl (fun h => ?_) (fun h => ?_)
  · replace H := H.1 h
    refine w_aload_n rfl rfl ?_
    refine m_geta (t := 0) (k := 20) rfl rfl ?_
    refine w_aload_n rfl rfl ?_
    refine m_get rfl rfl ?_
    refine w_aload_n rfl rfl ?_
    refine m_get rfl rfl ?_
    obtain ⟨g1, H⟩ := H
    refine m_ast rfl (f := 25) (k := 20) rfl g1 ?_
    refine w_aload_n rfl rfl ?_
    refine m_geta (t := 0) (k := 20) rfl rfl ?_
    refine w_aload_n rfl rfl ?_
    refine m_get rfl rfl ?_
    show wm iv L h0 d 100 158 [lr 307, li a1] [vi (s.1 24), vr 325] (ua s 25 (s.1 24) (s.1 30)) (qv F)
    refine w_aload_n rfl rfl ?_
    refine m_get rfl rfl ?_
    show wm iv L h0 d 100 162 [lr 307, li a1] [vi (s.1 31), vi (s.1 24), vr 325] (ua s 25 (s.1 24) (s.1 30)) (qv F)
    refine m_ast rfl (f := 26) (k := 20) rfl g1 ?_
    refine w_iconst (n := 0) rfl rfl ?_
    refine w_istore_n rfl rfl ?_
    exact wp_ls (sl_s (sl_s (sl_s (sl_0)))) H
  · replace H := H.2 h
    refine w_iconst (n := 1) rfl rfl ?_
    refine w_istore_n rfl rfl ?_
    exact wp_ls (sl_s (sl_s (sl_s (sl_0)))) H

/-- HoleDeskModel.endAct(Z)V at 11 -/
theorem B100_11 {iv : List (Int × Int)} {L : Nat} {h0 : MH} {d : Nat} {s : SM} {l1 : Int} {l2 : Int} {F : SM → Prop} (H : ((20 ≤ l2 → wm iv L h0 d 100 53 [lr 307, li l1, li 0] [] s (qv F)) ∧ (l2 < 20 → (-2147483648 ≤ l2 - 1 ∧ l2 - 1 ≤ 2147483647) ∧ (0 ≤ l2 ∧ l2 < 20) ∧ (0 ≤ l2 - 1 ∧ l2 - 1 < 20) ∧ (-2147483648 ≤ l2 + 1 ∧ l2 + 1 ≤ 2147483647) ∧ wm iv L h0 d 100 11 [lr 307, li l1, li (l2 + 1)] [] (ua (ua s 25 (l2 - 1) (s.2 25 l2)) 26 (l2 - 1) (s.2 26 l2)) (qv F)))) : wm iv L h0 d 100 11 [lr 307, li l1, li l2] [] s (qv F) := by
  refine w_iload_n rfl rfl ?_
  refine w_bipush (n := 20) rfl rfl rfl ?_
  refine w_icmp_ge rfl (fun h => ?_) (fun h => ?_)
  · replace H := H.1 h
    refine w_iconst (n := 0) rfl rfl ?_
    refine w_istore_n rfl rfl ?_
    exact wp_ls (sl_s (sl_s (sl_s (sl_0)))) H
  · replace H := H.2 h
    refine w_aload_n rfl rfl ?_
    refine m_geta (t := 0) (k := 20) rfl rfl ?_
    refine w_iload_n rfl rfl ?_
    refine w_iconst (n := 1) rfl rfl ?_
    obtain ⟨g1, H⟩ := H
    refine w_isub rfl g1 ?_
    refine w_aload_n rfl rfl ?_
    refine m_geta (t := 0) (k := 20) rfl rfl ?_
    refine w_iload_n rfl rfl ?_
    obtain ⟨g2, H⟩ := H
    refine m_ald rfl (f := 25) (k := 20) rfl g2 ?_
    obtain ⟨g3, H⟩ := H
    refine m_ast rfl (f := 25) (k := 20) rfl g3 ?_
    refine w_aload_n rfl rfl ?_
    refine m_geta (t := 0) (k := 20) rfl rfl ?_
    refine w_iload_n rfl rfl ?_
    refine w_iconst (n := 1) rfl rfl ?_
    refine w_isub rfl g1 ?_
    refine w_aload_n rfl rfl ?_
    refine m_geta (t := 0) (k := 20) rfl rfl ?_
    refine w_iload_n rfl rfl ?_
    refine m_ald rfl (f := 26) (k := 20) rfl g2 ?_
    show wm iv L h0 d 100 44 [lr 307, li l1, li l2] [vi (s.2 26 l2), vi (l2 - 1), vr 325] (ua s 25 (l2 - 1) (s.2 25 l2)) (qv F)
    refine m_ast rfl (f := 26) (k := 20) rfl g3 ?_
    obtain ⟨g4, H⟩ := H
    refine w_iinc rfl rfl rfl g4 ?_
    refine w_goto rfl ?_
    exact wp_ls (sl_s (sl_s (sl_s (sl_0)))) H

/-- HoleDeskModel.endAct(Z)V at 53 -/
theorem B100_53 {iv : List (Int × Int)} {L : Nat} {h0 : MH} {d : Nat} {s : SM} {l1 : Int} {l2 : Int} {F : SM → Prop} (H : ((1520 ≤ l2 → wm iv L h0 d 100 98 [lr 307, li l1, li 0] [] s (qv F)) ∧ (l2 < 1520 → (-2147483648 ≤ l2 + 80 ∧ l2 + 80 ≤ 2147483647) ∧ (0 ≤ l2 + 80 ∧ l2 + 80 < 1600) ∧ (0 ≤ l2 ∧ l2 < 1600) ∧ (-2147483648 ≤ l2 + 1 ∧ l2 + 1 ≤ 2147483647) ∧ wm iv L h0 d 100 53 [lr 307, li l1, li (l2 + 1)] [] (ua (ua s 27 l2 (s.2 27 (l2 + 80))) 28 l2 (s.2 28 (l2 + 80))) (qv F)))) : wm iv L h0 d 100 53 [lr 307, li l1, li l2] [] s (qv F) := by
  refine w_iload_n rfl rfl ?_
  refine w_sipush (n := 1520) rfl rfl rfl ?_
  refine w_icmp_ge rfl (fun h => ?_) (fun h => ?_)
  · replace H := H.1 h
    refine w_iconst (n := 0) rfl rfl ?_
    refine w_istore_n rfl rfl ?_
    exact wp_ls (sl_s (sl_s (sl_s (sl_0)))) H
  · replace H := H.2 h
    refine w_aload_n rfl rfl ?_
    refine m_geta (t := 0) (k := 1600) rfl rfl ?_
    refine w_iload_n rfl rfl ?_
    refine w_aload_n rfl rfl ?_
    refine m_geta (t := 0) (k := 1600) rfl rfl ?_
    refine w_iload_n rfl rfl ?_
    refine w_bipush (n := 80) rfl rfl rfl ?_
    obtain ⟨g1, H⟩ := H
    refine w_iadd rfl g1 ?_
    obtain ⟨g2, H⟩ := H
    refine m_ald rfl (f := 27) (k := 1600) rfl g2 ?_
    obtain ⟨g3, H⟩ := H
    refine m_ast rfl (f := 27) (k := 1600) rfl g3 ?_
    refine w_aload_n rfl rfl ?_
    refine m_geta (t := 0) (k := 1600) rfl rfl ?_
    refine w_iload_n rfl rfl ?_
    refine w_aload_n rfl rfl ?_
    refine m_geta (t := 0) (k := 1600) rfl rfl ?_
    refine w_iload_n rfl rfl ?_
    refine w_bipush (n := 80) rfl rfl rfl ?_
    refine w_iadd rfl g1 ?_
    refine m_ald rfl (f := 28) (k := 1600) rfl g2 ?_
    show wm iv L h0 d 100 89 [lr 307, li l1, li l2] [vi (s.2 28 (l2 + 80)), vi l2, vr 327] (ua s 27 l2 (s.2 27 (l2 + 80))) (qv F)
    refine m_ast rfl (f := 28) (k := 1600) rfl g3 ?_
    obtain ⟨g4, H⟩ := H
    refine w_iinc rfl rfl rfl g4 ?_
    refine w_goto rfl ?_
    exact wp_ls (sl_s (sl_s (sl_s (sl_0)))) H

/-- HoleDeskModel.endAct(Z)V at 98 -/
theorem B100_98 {iv : List (Int × Int)} {L : Nat} {h0 : MH} {d : Nat} {s : SM} {l1 : Int} {l2 : Int} {F : SM → Prop} (H : ((4560 ≤ l2 → (-2147483648 ≤ (s.1 24) - 1 ∧ (s.1 24) - 1 ≤ 2147483647) ∧ (0 ≤ (s.1 24) - 1 ∧ (s.1 24) - 1 < 20) ∧ wm iv L h0 d 100 165 [lr 307, li l1, li 0] [] (ua (ua (us s 24 ((s.1 24) - 1)) 25 ((s.1 24) - 1) (s.1 30)) 26 ((s.1 24) - 1) (s.1 31)) (qv F)) ∧ (l2 < 4560 → (-2147483648 ≤ l2 + 240 ∧ l2 + 240 ≤ 2147483647) ∧ (0 ≤ l2 + 240 ∧ l2 + 240 < 4800) ∧ (0 ≤ l2 ∧ l2 < 4800) ∧ (-2147483648 ≤ l2 + 1 ∧ l2 + 1 ≤ 2147483647) ∧ wm iv L h0 d 100 98 [lr 307, li l1, li (l2 + 1)] [] (ua s 29 l2 (s.2 29 (l2 + 240))) (qv F)))) : wm iv L h0 d 100 98 [lr 307, li l1, li l2] [] s (qv F) := by
  refine w_iload_n rfl rfl ?_
  refine w_sipush (n := 4560) rfl rfl rfl ?_
  refine w_icmp_ge rfl (fun h => ?_) (fun h => ?_)
  · replace H := H.1 h
    refine w_aload_n rfl rfl ?_
    refine w_dup rfl rfl ?_
    refine m_get rfl rfl ?_
    refine w_iconst (n := 1) rfl rfl ?_
    obtain ⟨g1, H⟩ := H
    refine w_isub rfl g1 ?_
    refine m_put rfl rfl rfl ?_
    refine w_aload_n rfl rfl ?_
    refine m_geta (t := 0) (k := 20) rfl rfl ?_
    refine w_aload_n rfl rfl ?_
    refine m_get rfl rfl ?_
    show wm iv L h0 d 100 145 [lr 307, li l1, li l2] [vi ((s.1 24) - 1), vr 324] (us s 24 ((s.1 24) - 1)) (qv F)
    refine w_aload_n rfl rfl ?_
    refine m_get rfl rfl ?_
    show wm iv L h0 d 100 149 [lr 307, li l1, li l2] [vi (s.1 30), vi ((s.1 24) - 1), vr 324] (us s 24 ((s.1 24) - 1)) (qv F)
    obtain ⟨g2, H⟩ := H
    refine m_ast rfl (f := 25) (k := 20) rfl g2 ?_
    refine w_aload_n rfl rfl ?_
    refine m_geta (t := 0) (k := 20) rfl rfl ?_
    refine w_aload_n rfl rfl ?_
    refine m_get rfl rfl ?_
    show wm iv L h0 d 100 158 [lr 307, li l1, li l2] [vi ((s.1 24) - 1), vr 325] (ua (us s 24 ((s.1 24) - 1)) 25 ((s.1 24) - 1) (s.1 30)) (qv F)
    refine w_aload_n rfl rfl ?_
    refine m_get rfl rfl ?_
    show wm iv L h0 d 100 162 [lr 307, li l1, li l2] [vi (s.1 31), vi ((s.1 24) - 1), vr 325] (ua (us s 24 ((s.1 24) - 1)) 25 ((s.1 24) - 1) (s.1 30)) (qv F)
    refine m_ast rfl (f := 26) (k := 20) rfl g2 ?_
    refine w_iconst (n := 0) rfl rfl ?_
    refine w_istore_n rfl rfl ?_
    exact wp_ls (sl_s (sl_s (sl_s (sl_0)))) H
  · replace H := H.2 h
    refine w_aload_n rfl rfl ?_
    refine m_geta (t := 0) (k := 4800) rfl rfl ?_
    refine w_iload_n rfl rfl ?_
    refine w_aload_n rfl rfl ?_
    refine m_geta (t := 0) (k := 4800) rfl rfl ?_
    refine w_iload_n rfl rfl ?_
    refine w_sipush (n := 240) rfl rfl rfl ?_
    obtain ⟨g3, H⟩ := H
    refine w_iadd rfl g3 ?_
    obtain ⟨g4, H⟩ := H
    refine m_ald rfl (f := 29) (k := 4800) rfl g4 ?_
    obtain ⟨g5, H⟩ := H
    refine m_ast rfl (f := 29) (k := 4800) rfl g5 ?_
    obtain ⟨g6, H⟩ := H
    refine w_iinc rfl rfl rfl g6 ?_
    refine w_goto rfl ?_
    exact wp_ls (sl_s (sl_s (sl_s (sl_0)))) H

/-- HoleDeskModel.endAct(Z)V at 165 -/
theorem B100_165 {iv : List (Int × Int)} {L : Nat} {h0 : MH} {d : Nat} {s : SM} {l1 : Int} {l2 : Int} {F : SM → Prop} (H : ((80 ≤ l2 → wm iv L h0 d 100 219 [lr 307, li l1, li 0] [] s (qv F)) ∧ (l2 < 80 → (-2147483648 ≤ 80 * (s.1 24) ∧ 80 * (s.1 24) ≤ 2147483647) ∧ (-2147483648 ≤ (80 * (s.1 24)) + l2 ∧ (80 * (s.1 24)) + l2 ≤ 2147483647) ∧ (0 ≤ l2 ∧ l2 < 80) ∧ (0 ≤ (80 * (s.1 24)) + l2 ∧ (80 * (s.1 24)) + l2 < 1600) ∧ (-2147483648 ≤ l2 + 1 ∧ l2 + 1 ≤ 2147483647) ∧ wm iv L h0 d 100 165 [lr 307, li l1, li (l2 + 1)] [] (ua (ua s 27 ((80 * (s.1 24)) + l2) (s.2 32 l2)) 28 ((80 * (s.1 24)) + l2) (s.2 33 l2)) (qv F)))) : wm iv L h0 d 100 165 [lr 307, li l1, li l2] [] s (qv F) := by
  refine w_iload_n rfl rfl ?_
  refine w_bipush (n := 80) rfl rfl rfl ?_
  refine w_icmp_ge rfl (fun h => ?_) (fun h => ?_)
  · replace H := H.1 h
    refine w_iconst (n := 0) rfl rfl ?_
    refine w_istore_n rfl rfl ?_
    exact wp_ls (sl_s (sl_s (sl_s (sl_0)))) H
  · replace H := H.2 h
    refine w_aload_n rfl rfl ?_
    refine m_geta (t := 0) (k := 1600) rfl rfl ?_
    refine w_bipush (n := 80) rfl rfl rfl ?_
    refine w_aload_n rfl rfl ?_
    refine m_get rfl rfl ?_
    obtain ⟨g1, H⟩ := H
    refine w_imul rfl g1 ?_
    refine w_iload_n rfl rfl ?_
    obtain ⟨g2, H⟩ := H
    refine w_iadd rfl g2 ?_
    refine w_aload_n rfl rfl ?_
    refine m_geta (t := 0) (k := 80) rfl rfl ?_
    refine w_iload_n rfl rfl ?_
    obtain ⟨g3, H⟩ := H
    refine m_ald rfl (f := 32) (k := 80) rfl g3 ?_
    obtain ⟨g4, H⟩ := H
    refine m_ast rfl (f := 27) (k := 1600) rfl g4 ?_
    refine w_aload_n rfl rfl ?_
    refine m_geta (t := 0) (k := 1600) rfl rfl ?_
    refine w_bipush (n := 80) rfl rfl rfl ?_
    refine w_aload_n rfl rfl ?_
    refine m_get rfl rfl ?_
    show wm iv L h0 d 100 201 [lr 307, li l1, li l2] [vi (s.1 24), vi 80, vr 327] (ua s 27 ((80 * (s.1 24)) + l2) (s.2 32 l2)) (qv F)
    refine w_imul rfl g1 ?_
    refine w_iload_n rfl rfl ?_
    refine w_iadd rfl g2 ?_
    refine w_aload_n rfl rfl ?_
    refine m_geta (t := 0) (k := 80) rfl rfl ?_
    refine w_iload_n rfl rfl ?_
    refine m_ald rfl (f := 33) (k := 80) rfl g3 ?_
    show wm iv L h0 d 100 210 [lr 307, li l1, li l2] [vi (s.2 33 l2), vi ((80 * (s.1 24)) + l2), vr 327] (ua s 27 ((80 * (s.1 24)) + l2) (s.2 32 l2)) (qv F)
    refine m_ast rfl (f := 28) (k := 1600) rfl g4 ?_
    obtain ⟨g5, H⟩ := H
    refine w_iinc rfl rfl rfl g5 ?_
    refine w_goto rfl ?_
    exact wp_ls (sl_s (sl_s (sl_s (sl_0)))) H

/-- HoleDeskModel.endAct(Z)V at 219 -/
theorem B100_219 {iv : List (Int × Int)} {L : Nat} {h0 : MH} {d : Nat} {s : SM} {l1 : Int} {l2 : Int} {F : SM → Prop} (H : ((240 ≤ l2 → (-2147483648 ≤ (s.1 24) + 1 ∧ (s.1 24) + 1 ≤ 2147483647) ∧ ((s.1 35 ≠ 0 → F (us (us s 24 ((s.1 24) + 1)) 35 1)) ∧ (s.1 35 = 0 → ((l1 ≠ 0 → F (us (us s 24 ((s.1 24) + 1)) 35 0)) ∧ (l1 = 0 → F (us (us s 24 ((s.1 24) + 1)) 35 1)))))) ∧ (l2 < 240 → (-2147483648 ≤ 240 * (s.1 24) ∧ 240 * (s.1 24) ≤ 2147483647) ∧ (-2147483648 ≤ (240 * (s.1 24)) + l2 ∧ (240 * (s.1 24)) + l2 ≤ 2147483647) ∧ (0 ≤ l2 ∧ l2 < 240) ∧ (0 ≤ (240 * (s.1 24)) + l2 ∧ (240 * (s.1 24)) + l2 < 4800) ∧ (-2147483648 ≤ l2 + 1 ∧ l2 + 1 ≤ 2147483647) ∧ wm iv L h0 d 100 219 [lr 307, li l1, li (l2 + 1)] [] (ua s 29 ((240 * (s.1 24)) + l2) (s.2 34 l2)) (qv F)))) : wm iv L h0 d 100 219 [lr 307, li l1, li l2] [] s (qv F) := by
  refine w_iload_n rfl rfl ?_
  refine w_sipush (n := 240) rfl rfl rfl ?_
  refine w_icmp_ge rfl (fun h => ?_) (fun h => ?_)
  · replace H := H.1 h
    refine w_aload_n rfl rfl ?_
    refine w_dup rfl rfl ?_
    refine m_get rfl rfl ?_
    refine w_iconst (n := 1) rfl rfl ?_
    obtain ⟨g1, H⟩ := H
    refine w_iadd rfl g1 ?_
    refine m_put rfl rfl rfl ?_
    refine w_aload_n rfl rfl ?_
    refine w_aload_n rfl rfl ?_
    refine m_get rfl rfl ?_
    show wm iv L h0 d 100 268 [lr 307, li l1, li l2] [vi (s.1 35), vr 307] (us s 24 ((s.1 24) + 1)) (qv F)
    refine w_if_ne rfl (fun h => ?_) (fun h => ?_)
    · replace H := H.1 h
      refine w_iconst (n := 1) rfl rfl ?_
      refine w_goto rfl ?_
      refine m_putz rfl rfl rfl (by decide) ?_
      exact w_ret rfl rfl ⟨rfl, H⟩
    · replace H := H.2 h
      refine w_iload_n rfl rfl ?_
      refine w_if_ne rfl (fun h => ?_) (fun h => ?_)
      · replace H := H.1 h
        refine w_iconst (n := 0) rfl rfl ?_
        refine m_putz rfl rfl rfl (by decide) ?_
        exact w_ret rfl rfl ⟨rfl, H⟩
      · replace H := H.2 h
        refine w_iconst (n := 1) rfl rfl ?_
        refine w_goto rfl ?_
        refine m_putz rfl rfl rfl (by decide) ?_
        exact w_ret rfl rfl ⟨rfl, H⟩
  · replace H := H.2 h
    refine w_aload_n rfl rfl ?_
    refine m_geta (t := 0) (k := 4800) rfl rfl ?_
    refine w_sipush (n := 240) rfl rfl rfl ?_
    refine w_aload_n rfl rfl ?_
    refine m_get rfl rfl ?_
    obtain ⟨g2, H⟩ := H
    refine w_imul rfl g2 ?_
    refine w_iload_n rfl rfl ?_
    obtain ⟨g3, H⟩ := H
    refine w_iadd rfl g3 ?_
    refine w_aload_n rfl rfl ?_
    refine m_geta (t := 0) (k := 240) rfl rfl ?_
    refine w_iload_n rfl rfl ?_
    obtain ⟨g4, H⟩ := H
    refine m_ald rfl (f := 34) (k := 240) rfl g4 ?_
    obtain ⟨g5, H⟩ := H
    refine m_ast rfl (f := 29) (k := 4800) rfl g5 ?_
    obtain ⟨g6, H⟩ := H
    refine w_iinc rfl rfl rfl g6 ?_
    refine w_goto rfl ?_
    exact wp_ls (sl_s (sl_s (sl_s (sl_0)))) H

/-- HoleDeskModel.undo()I -/
theorem B101 {iv : List (Int × Int)} {L : Nat} {h0 : MH} {d : Nat} {s : SM} {F : Int → SM → Prop} (H : ((s.1 24 ≠ 0 → (-2147483648 ≤ (s.1 24) - 1 ∧ (s.1 24) - 1 ≤ 2147483647) ∧ wm iv L h0 (d + 1) 101 22 [lr 307, li 0] [] (us s 24 ((s.1 24) - 1)) (qi F)) ∧ (s.1 24 = 0 → F (-4) s))) : cm iv L h0 (d + 1) 101 [vr 307] s (qi F) := by
  show wm iv L h0 (d + 1) 101 0 [lr 307] [] s (qi F)
  refine w_aload_n rfl rfl ?_
  refine m_get rfl rfl ?_
  refine w_if_ne rfl (fun h => ?_) (fun h => ?_)
  · replace H := H.1 h
    refine w_aload_n rfl rfl ?_
    refine w_dup rfl rfl ?_
    refine m_get rfl rfl ?_
    refine w_iconst (n := 1) rfl rfl ?_
    obtain ⟨g1, H⟩ := H
    refine w_isub rfl g1 ?_
    refine m_put rfl rfl rfl ?_
    refine w_iconst (n := 0) rfl rfl ?_
    refine w_istore_n rfl rfl ?_
    exact wp_ls (sl_s (sl_s (sl_0))) H
  · replace H := H.2 h
    refine w_bipush (n := (-4)) rfl rfl rfl ?_
    exact w_iret rfl rfl ⟨_, rfl, H⟩

/-- HoleDeskModel.undo()I at 22 -/
theorem B101_22 {iv : List (Int × Int)} {L : Nat} {h0 : MH} {d : Nat} {s : SM} {l1 : Int} {F : Int → SM → Prop} (H : (0 ≤ s.1 24 ∧ s.1 24 < 20) ∧ ((s.2 25 (s.1 24) ≤ l1 → (-2147483648 ≤ 80 * (s.1 24) ∧ 80 * (s.1 24) ≤ 2147483647) ∧ (0 ≤ 80 * (s.1 24) ∧ 80 * (s.1 24) < 1600) ∧ (0 ≤ s.2 27 (80 * (s.1 24)) ∧ s.2 27 (80 * (s.1 24)) < 3004) ∧ F (s.1 24) (us (us (ua (ua (us s 15 (s.2 27 (80 * (s.1 24)))) 12 (s.2 27 (80 * (s.1 24))) (-9)) 13 (s.2 27 (80 * (s.1 24))) (-9)) 16 (s.2 26 (s.1 24))) 35 1)) ∧ (l1 < s.2 25 (s.1 24) → (-2147483648 ≤ 80 * (s.1 24) ∧ 80 * (s.1 24) ≤ 2147483647) ∧ (-2147483648 ≤ (80 * (s.1 24)) + l1 ∧ (80 * (s.1 24)) + l1 ≤ 2147483647) ∧ (0 ≤ (80 * (s.1 24)) + l1 ∧ (80 * (s.1 24)) + l1 < 1600) ∧ (0 ≤ s.2 27 ((80 * (s.1 24)) + l1) ∧ s.2 27 ((80 * (s.1 24)) + l1) < 3004) ∧ wm iv L h0 (d + 1) 101 72 [lr 307, li l1, li (s.2 27 ((80 * (s.1 24)) + l1)), li 0] [] (ua s 10 (s.2 27 ((80 * (s.1 24)) + l1)) (s.2 28 ((80 * (s.1 24)) + l1))) (qi F)))) : wm iv L h0 (d + 1) 101 22 [lr 307, li l1] [] s (qi F) := by
  refine w_iload_n rfl rfl ?_
  refine w_aload_n rfl rfl ?_
  refine m_geta (t := 0) (k := 20) rfl rfl ?_
  refine w_aload_n rfl rfl ?_
  refine m_get rfl rfl ?_
  obtain ⟨g1, H⟩ := H
  refine m_ald rfl (f := 25) (k := 20) rfl g1 ?_
  refine w_icmp_ge rfl (fun h => ?_) (fun h => ?_)
  · replace H := H.1 h
    refine w_aload_n rfl rfl ?_
    refine w_aload_n rfl rfl ?_
    refine m_geta (t := 0) (k := 1600) rfl rfl ?_
    refine w_bipush (n := 80) rfl rfl rfl ?_
    refine w_aload_n rfl rfl ?_
    refine m_get rfl rfl ?_
    obtain ⟨g2, H⟩ := H
    refine w_imul rfl g2 ?_
    obtain ⟨g3, H⟩ := H
    refine m_ald rfl (f := 27) (k := 1600) rfl g3 ?_
    refine m_put rfl rfl rfl ?_
    refine w_aload_n rfl rfl ?_
    refine m_geta (t := 0) (k := 3004) rfl rfl ?_
    refine w_aload_n rfl rfl ?_
    refine m_get rfl rfl ?_
    show wm iv L h0 (d + 1) 101 146 [lr 307, li l1] [vi (s.2 27 (80 * (s.1 24))), vr 316] (us s 15 (s.2 27 (80 * (s.1 24)))) (qi F)
    refine w_bipush (n := (-9)) rfl rfl rfl ?_
    obtain ⟨g4, H⟩ := H
    refine m_ast rfl (f := 12) (k := 3004) rfl g4 ?_
    refine w_aload_n rfl rfl ?_
    refine m_geta (t := 0) (k := 3004) rfl rfl ?_
    refine w_aload_n rfl rfl ?_
    refine m_get rfl rfl ?_
    show wm iv L h0 (d + 1) 101 157 [lr 307, li l1] [vi (s.2 27 (80 * (s.1 24))), vr 317] (ua (us s 15 (s.2 27 (80 * (s.1 24)))) 12 (s.2 27 (80 * (s.1 24))) (-9)) (qi F)
    refine w_bipush (n := (-9)) rfl rfl rfl ?_
    refine m_ast rfl (f := 13) (k := 3004) rfl g4 ?_
    refine w_aload_n rfl rfl ?_
    refine w_aload_n rfl rfl ?_
    refine m_geta (t := 0) (k := 20) rfl rfl ?_
    refine w_aload_n rfl rfl ?_
    refine m_get rfl rfl ?_
    show wm iv L h0 (d + 1) 101 169 [lr 307, li l1] [vi (s.1 24), vr 325, vr 307] (ua (ua (us s 15 (s.2 27 (80 * (s.1 24)))) 12 (s.2 27 (80 * (s.1 24))) (-9)) 13 (s.2 27 (80 * (s.1 24))) (-9)) (qi F)
    refine m_ald rfl (f := 26) (k := 20) rfl g1 ?_
    show wm iv L h0 (d + 1) 101 170 [lr 307, li l1] [vi (s.2 26 (s.1 24)), vr 307] (ua (ua (us s 15 (s.2 27 (80 * (s.1 24)))) 12 (s.2 27 (80 * (s.1 24))) (-9)) 13 (s.2 27 (80 * (s.1 24))) (-9)) (qi F)
    refine m_put rfl rfl rfl ?_
    refine w_aload_n rfl rfl ?_
    refine w_iconst (n := 1) rfl rfl ?_
    refine m_putz rfl rfl rfl (by decide) ?_
    refine w_aload_n rfl rfl ?_
    refine m_get rfl rfl ?_
    show wm iv L h0 (d + 1) 101 182 [lr 307, li l1] [vi (s.1 24)] (us (us (ua (ua (us s 15 (s.2 27 (80 * (s.1 24)))) 12 (s.2 27 (80 * (s.1 24))) (-9)) 13 (s.2 27 (80 * (s.1 24))) (-9)) 16 (s.2 26 (s.1 24))) 35 1) (qi F)
    exact w_iret rfl rfl ⟨_, rfl, H⟩
  · replace H := H.2 h
    refine w_aload_n rfl rfl ?_
    refine m_geta (t := 0) (k := 1600) rfl rfl ?_
    refine w_bipush (n := 80) rfl rfl rfl ?_
    refine w_aload_n rfl rfl ?_
    refine m_get rfl rfl ?_
    obtain ⟨g5, H⟩ := H
    refine w_imul rfl g5 ?_
    refine w_iload_n rfl rfl ?_
    obtain ⟨g6, H⟩ := H
    refine w_iadd rfl g6 ?_
    obtain ⟨g7, H⟩ := H
    refine m_ald rfl (f := 27) (k := 1600) rfl g7 ?_
    refine w_istore_n rfl rfl ?_
    refine w_aload_n rfl rfl ?_
    refine m_geta (t := 0) (k := 3004) rfl rfl ?_
    refine w_iload_n rfl rfl ?_
    refine w_aload_n rfl rfl ?_
    refine m_geta (t := 0) (k := 1600) rfl rfl ?_
    refine w_bipush (n := 80) rfl rfl rfl ?_
    refine w_aload_n rfl rfl ?_
    refine m_get rfl rfl ?_
    refine w_imul rfl g5 ?_
    refine w_iload_n rfl rfl ?_
    refine w_iadd rfl g6 ?_
    refine m_ald rfl (f := 28) (k := 1600) rfl g7 ?_
    obtain ⟨g8, H⟩ := H
    refine m_ast rfl (f := 10) (k := 3004) rfl g8 ?_
    refine w_iconst (n := 0) rfl rfl ?_
    refine w_istore_n rfl rfl ?_
    exact wp_ls (sl_s (sl_s (sl_s (sl_s (sl_0))))) H

/-- HoleDeskModel.undo()I at 72 -/
theorem B101_72 {iv : List (Int × Int)} {L : Nat} {h0 : MH} {d : Nat} {s : SM} {l1 : Int} {l2 : Int} {l3 : Int} {F : Int → SM → Prop} (H : (0 ≤ l2 ∧ l2 < 3004) ∧ (0 ≤ s.2 9 l2 ∧ s.2 9 l2 < 16) ∧ ((pO (s.2 9 l2) ≤ l3 → (-2147483648 ≤ l1 + 1 ∧ l1 + 1 ≤ 2147483647) ∧ wm iv L h0 (d + 1) 101 22 [lr 307, li (l1 + 1)] [] s (qi F)) ∧ (l3 < pO (s.2 9 l2) → (-2147483648 ≤ 240 * (s.1 24) ∧ 240 * (s.1 24) ≤ 2147483647) ∧ (-2147483648 ≤ 3 * l1 ∧ 3 * l1 ≤ 2147483647) ∧ (-2147483648 ≤ (240 * (s.1 24)) + (3 * l1) ∧ (240 * (s.1 24)) + (3 * l1) ≤ 2147483647) ∧ (-2147483648 ≤ ((240 * (s.1 24)) + (3 * l1)) + l3 ∧ ((240 * (s.1 24)) + (3 * l1)) + l3 ≤ 2147483647) ∧ (0 ≤ ((240 * (s.1 24)) + (3 * l1)) + l3 ∧ ((240 * (s.1 24)) + (3 * l1)) + l3 < 4800) ∧ cm iv L h0 d 76 [vr 307, vi l2, vi l3, vi (s.2 29 (((240 * (s.1 24)) + (3 * l1)) + l3))] s (qv fun s9 => (-2147483648 ≤ l3 + 1 ∧ l3 + 1 ≤ 2147483647) ∧ wm iv L h0 (d + 1) 101 72 [lr 307, li l1, li l2, li (l3 + 1)] [] s9 (qi F))))) : wm iv L h0 (d + 1) 101 72 [lr 307, li l1, li l2, li l3] [] s (qi F) := by
  refine w_iload_n rfl rfl ?_
  refine w_aload_n rfl rfl ?_
  refine m_geta (t := 0) (k := 3004) rfl rfl ?_
  refine w_iload_n rfl rfl ?_
  obtain ⟨g1, H⟩ := H
  refine m_ald rfl (f := 9) (k := 3004) rfl g1 ?_
  obtain ⟨g2, H⟩ := H
  refine w_static (as := [vi (s.2 9 l2)]) (r := [vi l3]) rfl rfl rfl rfl rfl (m_parts g2 ?_)
  show wm iv L h0 (d + 1) 101 82 [lr 307, li l1, li l2, li l3] [vi (pO (s.2 9 l2)), vi l3] s (qi F)
  refine w_icmp_ge rfl (fun h => ?_) (fun h => ?_)
  · replace H := H.1 h
    obtain ⟨g3, H⟩ := H
    refine w_iinc rfl rfl rfl g3 ?_
    refine w_goto rfl ?_
    exact wp_ls (sl_s (sl_s (sl_0))) H
  · replace H := H.2 h
    refine w_aload_n rfl rfl ?_
    refine w_iload_n rfl rfl ?_
    refine w_iload_n rfl rfl ?_
    refine w_aload_n rfl rfl ?_
    refine m_geta (t := 0) (k := 4800) rfl rfl ?_
    refine w_sipush (n := 240) rfl rfl rfl ?_
    refine w_aload_n rfl rfl ?_
    refine m_get rfl rfl ?_
    obtain ⟨g4, H⟩ := H
    refine w_imul rfl g4 ?_
    refine w_iconst (n := 3) rfl rfl ?_
    refine w_iload_n rfl rfl ?_
    obtain ⟨g5, H⟩ := H
    refine w_imul rfl g5 ?_
    obtain ⟨g6, H⟩ := H
    refine w_iadd rfl g6 ?_
    refine w_iload_n rfl rfl ?_
    obtain ⟨g7, H⟩ := H
    refine w_iadd rfl g7 ?_
    obtain ⟨g8, H⟩ := H
    refine m_ald rfl (f := 29) (k := 4800) rfl g8 ?_
    refine m_call (as := [vi l2, vi l3, vi (s.2 29 (((240 * (s.1 24)) + (3 * l1)) + l3))]) (r := []) rfl rfl rfl rfl rfl rfl (wc_mono H (Nat.le_refl _) ?_)
    rintro _ s9 ⟨rfl, H⟩
    show wm iv L h0 (d + 1) 101 110 [lr 307, li l1, li l2, li l3] [] s9 (qi F)
    obtain ⟨g10, H⟩ := H
    refine w_iinc rfl rfl rfl g10 ?_
    refine w_goto rfl ?_
    exact wp_ls (sl_s (sl_s (sl_s (sl_s (sl_0))))) H

/-- HoleDeskModel.goneTo(I)I -/
theorem B102 {iv : List (Int × Int)} {L : Nat} {h0 : MH} {d : Nat} {s : SM} {a1 : Int} {F : Int → SM → Prop} (H : ((a1 ≠ (-9) → F a1 (us s 16 a1)) ∧ (a1 = (-9) → F (-4) s))) : cm iv L h0 d 102 [vr 307, vi a1] s (qi F) := by
  show wm iv L h0 d 102 0 [lr 307, li a1] [] s (qi F)
  refine w_iload_n rfl rfl ?_
  refine w_bipush (n := (-9)) rfl rfl rfl ?_
  refine w_icmp_ne rfl (fun h => ?_) (fun h => ?_)
  · replace H := H.1 h
    refine w_aload_n rfl rfl ?_
    refine w_iload_n rfl rfl ?_
    refine m_put rfl rfl rfl ?_
    refine w_iload_n rfl rfl ?_
    exact w_iret rfl rfl ⟨_, rfl, H⟩
  · replace H := H.2 h
    refine w_bipush (n := (-4)) rfl rfl rfl ?_
    exact w_iret rfl rfl ⟨_, rfl, H⟩

/-- HoleDeskModel.besides(I)I -/
theorem B103 {iv : List (Int × Int)} {L : Nat} {h0 : MH} {d : Nat} {s : SM} {a1 : Int} {F : Int → SM → Prop} (H : (0 ≤ s.1 16 ∧ s.1 16 < 3004) ∧ ((s.2 12 (s.1 16) ≠ (-9) → (-2147483648 ≤ (s.2 13 (s.1 16)) + a1 ∧ (s.2 13 (s.1 16)) + a1 ≤ 2147483647) ∧ ((s.2 12 (s.1 16) = (-9) → F (-9) s) ∧ (s.2 12 (s.1 16) ≠ (-9) → (0 ≤ s.2 12 (s.1 16) ∧ s.2 12 (s.1 16) < 3004) ∧ (0 ≤ s.2 9 (s.2 12 (s.1 16)) ∧ s.2 9 (s.2 12 (s.1 16)) < 16) ∧ (-2147483648 ≤ (pO (s.2 9 (s.2 12 (s.1 16)))) - 1 ∧ (pO (s.2 9 (s.2 12 (s.1 16)))) - 1 ≤ 2147483647) ∧ ((0 ≤ (s.2 13 (s.1 16)) + a1 ∧ (s.2 13 (s.1 16)) + a1 ≤ (pO (s.2 9 (s.2 12 (s.1 16)))) - 1 → (-2147483648 ≤ 3 * (s.2 12 (s.1 16)) ∧ 3 * (s.2 12 (s.1 16)) ≤ 2147483647) ∧ (-2147483648 ≤ (3 * (s.2 12 (s.1 16))) + ((s.2 13 (s.1 16)) + a1) ∧ (3 * (s.2 12 (s.1 16))) + ((s.2 13 (s.1 16)) + a1) ≤ 2147483647) ∧ (0 ≤ (3 * (s.2 12 (s.1 16))) + ((s.2 13 (s.1 16)) + a1) ∧ (3 * (s.2 12 (s.1 16))) + ((s.2 13 (s.1 16)) + a1) < 9012) ∧ F (s.2 14 ((3 * (s.2 12 (s.1 16))) + ((s.2 13 (s.1 16)) + a1))) s) ∧ ((s.2 13 (s.1 16)) + a1 < 0 ∨ (pO (s.2 9 (s.2 12 (s.1 16)))) - 1 < (s.2 13 (s.1 16)) + a1 → F (-9) s))))) ∧ (s.2 12 (s.1 16) = (-9) → ((s.2 12 (s.1 16) = (-9) → F (-9) s) ∧ (s.2 12 (s.1 16) ≠ (-9) → (0 ≤ s.2 12 (s.1 16) ∧ s.2 12 (s.1 16) < 3004) ∧ (0 ≤ s.2 9 (s.2 12 (s.1 16)) ∧ s.2 9 (s.2 12 (s.1 16)) < 16) ∧ (-2147483648 ≤ (pO (s.2 9 (s.2 12 (s.1 16)))) - 1 ∧ (pO (s.2 9 (s.2 12 (s.1 16)))) - 1 ≤ 2147483647) ∧ ((0 ≤ (-9) ∧ (-9) ≤ (pO (s.2 9 (s.2 12 (s.1 16)))) - 1 → (-2147483648 ≤ 3 * (s.2 12 (s.1 16)) ∧ 3 * (s.2 12 (s.1 16)) ≤ 2147483647) ∧ (-2147483648 ≤ (3 * (s.2 12 (s.1 16))) - 9 ∧ (3 * (s.2 12 (s.1 16))) - 9 ≤ 2147483647) ∧ (0 ≤ (3 * (s.2 12 (s.1 16))) - 9 ∧ (3 * (s.2 12 (s.1 16))) - 9 < 9012) ∧ F (s.2 14 ((3 * (s.2 12 (s.1 16))) - 9)) s) ∧ ((-9) < 0 ∨ (pO (s.2 9 (s.2 12 (s.1 16)))) - 1 < (-9) → F (-9) s))))))) : cm iv L h0 (d + 1) 103 [vr 307, vi a1] s (qi F) := by
  show wm iv L h0 (d + 1) 103 0 [lr 307, li a1] [] s (qi F)
  refine w_aload_n rfl rfl ?_
  refine m_geta (t := 0) (k := 3004) rfl rfl ?_
  refine w_aload_n rfl rfl ?_
  refine m_get rfl rfl ?_
  obtain ⟨g1, H⟩ := H
  refine m_ald rfl (f := 12) (k := 3004) rfl g1 ?_
  refine w_istore_n rfl rfl ?_
  refine w_iload_n rfl rfl ?_
  refine w_bipush (n := (-9)) rfl rfl rfl ?_
  refine w_icmp_ne rfl (fun h => ?_) (fun h => ?_)
  · replace H := H.1 h
    refine w_aload_n rfl rfl ?_
    refine m_geta (t := 0) (k := 3004) rfl rfl ?_
    refine w_aload_n rfl rfl ?_
    refine m_get rfl rfl ?_
    refine m_ald rfl (f := 13) (k := 3004) rfl g1 ?_
    refine w_iload_n rfl rfl ?_
    obtain ⟨g2, H⟩ := H
    refine w_iadd rfl g2 ?_
    refine w_istore_n rfl rfl ?_
    refine w_iload_n rfl rfl ?_
    refine w_bipush (n := (-9)) rfl rfl rfl ?_
    refine w_icmp_eq rfl (fun h => ?_) (fun h => ?_)
    · replace H := H.1 h
      refine w_bipush (n := (-9)) rfl rfl rfl ?_
      exact w_iret rfl rfl ⟨_, rfl, H⟩
    · replace H := H.2 h
      refine w_iload_n rfl rfl ?_
      refine w_iconst (n := 0) rfl rfl ?_
      refine w_aload_n rfl rfl ?_
      refine m_geta (t := 0) (k := 3004) rfl rfl ?_
      refine w_iload_n rfl rfl ?_
      obtain ⟨g3, H⟩ := H
      refine m_ald rfl (f := 9) (k := 3004) rfl g3 ?_
      obtain ⟨g4, H⟩ := H
      refine w_static (as := [vi (s.2 9 (s.2 12 (s.1 16)))]) (r := [vi 0, vi ((s.2 13 (s.1 16)) + a1)]) rfl rfl rfl rfl rfl (m_parts g4 ?_)
      show wm iv L h0 (d + 1) 103 50 [lr 307, li a1, li (s.2 12 (s.1 16)), li ((s.2 13 (s.1 16)) + a1)] [vi (pO (s.2 9 (s.2 12 (s.1 16)))), vi 0, vi ((s.2 13 (s.1 16)) + a1)] s (qi F)
      refine w_iconst (n := 1) rfl rfl ?_
      obtain ⟨g5, H⟩ := H
      refine w_isub rfl g5 ?_
      refine w_static (as := [vi ((s.2 13 (s.1 16)) + a1), vi 0, vi ((pO (s.2 9 (s.2 12 (s.1 16)))) - 1)]) (r := []) rfl rfl rfl rfl rfl (m_in (fun h => ?_) (fun h => ?_))
      · show wm iv L h0 (d + 1) 103 55 [lr 307, li a1, li (s.2 12 (s.1 16)), li ((s.2 13 (s.1 16)) + a1)] [vi 1] s (qi F)
        replace H := H.1 h
        refine w_if_eq rfl (fun h => absurd h (by decide)) (fun _ => ?_)
        refine w_aload_n rfl rfl ?_
        refine m_geta (t := 0) (k := 9012) rfl rfl ?_
        refine w_iconst (n := 3) rfl rfl ?_
        refine w_iload_n rfl rfl ?_
        obtain ⟨g6, H⟩ := H
        refine w_imul rfl g6 ?_
        refine w_iload_n rfl rfl ?_
        obtain ⟨g7, H⟩ := H
        refine w_iadd rfl g7 ?_
        obtain ⟨g8, H⟩ := H
        refine m_ald rfl (f := 14) (k := 9012) rfl g8 ?_
        refine w_goto rfl ?_
        exact w_iret rfl rfl ⟨_, rfl, H⟩
      · show wm iv L h0 (d + 1) 103 55 [lr 307, li a1, li (s.2 12 (s.1 16)), li ((s.2 13 (s.1 16)) + a1)] [vi 0] s (qi F)
        replace H := H.2 h
        refine w_if_eq rfl (fun _ => ?_) (fun h => absurd h (by decide))
        refine w_bipush (n := (-9)) rfl rfl rfl ?_
        exact w_iret rfl rfl ⟨_, rfl, H⟩
  · replace H := H.2 h
    refine w_bipush (n := (-9)) rfl rfl rfl ?_
    refine w_goto rfl ?_
    refine w_istore_n rfl rfl ?_
    refine w_iload_n rfl rfl ?_
    refine w_bipush (n := (-9)) rfl rfl rfl ?_
    refine w_icmp_eq rfl (fun h => ?_) (fun h => ?_)
    · replace H := H.1 h
      refine w_bipush (n := (-9)) rfl rfl rfl ?_
      exact w_iret rfl rfl ⟨_, rfl, H⟩
    · replace H := H.2 h
      refine w_iload_n rfl rfl ?_
      refine w_iconst (n := 0) rfl rfl ?_
      refine w_aload_n rfl rfl ?_
      refine m_geta (t := 0) (k := 3004) rfl rfl ?_
      refine w_iload_n rfl rfl ?_
      obtain ⟨g9, H⟩ := H
      refine m_ald rfl (f := 9) (k := 3004) rfl g9 ?_
      obtain ⟨g10, H⟩ := H
      refine w_static (as := [vi (s.2 9 (s.2 12 (s.1 16)))]) (r := [vi 0, vi (-9)]) rfl rfl rfl rfl rfl (m_parts g10 ?_)
      show wm iv L h0 (d + 1) 103 50 [lr 307, li a1, li (s.2 12 (s.1 16)), li (-9)] [vi (pO (s.2 9 (s.2 12 (s.1 16)))), vi 0, vi (-9)] s (qi F)
      refine w_iconst (n := 1) rfl rfl ?_
      obtain ⟨g11, H⟩ := H
      refine w_isub rfl g11 ?_
      refine w_static (as := [vi (-9), vi 0, vi ((pO (s.2 9 (s.2 12 (s.1 16)))) - 1)]) (r := []) rfl rfl rfl rfl rfl (m_in (fun h => ?_) (fun h => ?_))
      · show wm iv L h0 (d + 1) 103 55 [lr 307, li a1, li (s.2 12 (s.1 16)), li (-9)] [vi 1] s (qi F)
        replace H := H.1 h
        refine w_if_eq rfl (fun h => absurd h (by decide)) (fun _ => ?_)
        refine w_aload_n rfl rfl ?_
        refine m_geta (t := 0) (k := 9012) rfl rfl ?_
        refine w_iconst (n := 3) rfl rfl ?_
        refine w_iload_n rfl rfl ?_
        obtain ⟨g12, H⟩ := H
        refine w_imul rfl g12 ?_
        refine w_iload_n rfl rfl ?_
        obtain ⟨g13, H⟩ := H
        refine w_iadd rfl g13 ?_
        show wm iv L h0 (d + 1) 103 67 [lr 307, li a1, li (s.2 12 (s.1 16)), li (-9)] [vi ((3 * (s.2 12 (s.1 16))) - 9), vr 318] s (qi F)
        obtain ⟨g14, H⟩ := H
        refine m_ald rfl (f := 14) (k := 9012) rfl g14 ?_
        refine w_goto rfl ?_
        exact w_iret rfl rfl ⟨_, rfl, H⟩
      · show wm iv L h0 (d + 1) 103 55 [lr 307, li a1, li (s.2 12 (s.1 16)), li (-9)] [vi 0] s (qi F)
        replace H := H.2 h
        refine w_if_eq rfl (fun _ => ?_) (fun h => absurd h (by decide))
        refine w_bipush (n := (-9)) rfl rfl rfl ?_
        exact w_iret rfl rfl ⟨_, rfl, H⟩

/-- HoleDeskModel.holeBehind()I -/
theorem B104 {iv : List (Int × Int)} {L : Nat} {h0 : MH} {d : Nat} {s : SM} {F : Int → SM → Prop} (H : cm iv L h0 d 79 [vr 307] s (qv fun s1 => wm iv L h0 (d + 1) 104 8 [lr 307, li 0, li 0] [] s1 (qi F))) : cm iv L h0 (d + 1) 104 [vr 307] s (qi F) := by
  show wm iv L h0 (d + 1) 104 0 [lr 307] [] s (qi F)
  refine w_aload_n rfl rfl ?_
  refine m_call (as := []) (r := []) rfl rfl rfl rfl rfl rfl (wc_mono H (Nat.le_refl _) ?_)
  rintro _ s1 ⟨rfl, H⟩
  show wm iv L h0 (d + 1) 104 4 [lr 307] [] s1 (qi F)
  refine w_iconst (n := 0) rfl rfl ?_
  refine w_istore_n rfl rfl ?_
  refine w_iconst (n := 0) rfl rfl ?_
  refine w_istore_n rfl rfl ?_
  exact wp_ls (sl_s (sl_s (sl_s (sl_0)))) H

/-- HoleDeskModel.holeBehind()I at 8 -/
theorem B104_8 {iv : List (Int × Int)} {L : Nat} {h0 : MH} {d : Nat} {s : SM} {l1 : Int} {l2 : Int} {F : Int → SM → Prop} (H : ((s.1 18 ≤ l2 → F (-9) s) ∧ (l2 < s.1 18 → ((l1 = 0 → ((l1 ≠ 0 → (-2147483648 ≤ l2 + 1 ∧ l2 + 1 ≤ 2147483647) ∧ wm iv L h0 (d + 1) 104 8 [lr 307, li 1, li (l2 + 1)] [] s (qi F)) ∧ (l1 = 0 → (0 ≤ l2 ∧ l2 < 80) ∧ ((s.2 17 l2 ≠ s.1 16 → (-2147483648 ≤ l2 + 1 ∧ l2 + 1 ≤ 2147483647) ∧ wm iv L h0 (d + 1) 104 8 [lr 307, li 0, li (l2 + 1)] [] s (qi F)) ∧ (s.2 17 l2 = s.1 16 → (-2147483648 ≤ l2 + 1 ∧ l2 + 1 ≤ 2147483647) ∧ wm iv L h0 (d + 1) 104 8 [lr 307, li 1, li (l2 + 1)] [] s (qi F)))))) ∧ (l1 ≠ 0 → (0 ≤ l2 ∧ l2 < 80) ∧ (0 ≤ s.2 17 l2 ∧ s.2 17 l2 < 3004) ∧ ((s.2 9 (s.2 17 l2) ≠ 0 → ((l1 ≠ 0 → (-2147483648 ≤ l2 + 1 ∧ l2 + 1 ≤ 2147483647) ∧ wm iv L h0 (d + 1) 104 8 [lr 307, li 1, li (l2 + 1)] [] s (qi F)) ∧ (l1 = 0 → ((s.2 17 l2 ≠ s.1 16 → (-2147483648 ≤ l2 + 1 ∧ l2 + 1 ≤ 2147483647) ∧ wm iv L h0 (d + 1) 104 8 [lr 307, li 0, li (l2 + 1)] [] s (qi F)) ∧ (s.2 17 l2 = s.1 16 → (-2147483648 ≤ l2 + 1 ∧ l2 + 1 ≤ 2147483647) ∧ wm iv L h0 (d + 1) 104 8 [lr 307, li 1, li (l2 + 1)] [] s (qi F)))))) ∧ (s.2 9 (s.2 17 l2) = 0 → F (s.2 17 l2) s))))))) : wm iv L h0 (d + 1) 104 8 [lr 307, li l1, li l2] [] s (qi F) := by
  refine w_iload_n rfl rfl ?_
  refine w_aload_n rfl rfl ?_
  refine m_get rfl rfl ?_
  refine w_icmp_ge rfl (fun h => ?_) (fun h => ?_)
  · replace H := H.1 h
    refine w_bipush (n := (-9)) rfl rfl rfl ?_
    exact w_iret rfl rfl ⟨_, rfl, H⟩
  · replace H := H.2 h
    refine w_iload_n rfl rfl ?_
    refine w_if_eq rfl (fun h => ?_) (fun h => ?_)
    · replace H := H.1 h
      refine w_iload_n rfl rfl ?_
      refine w_if_ne rfl (fun h => ?_) (fun h => ?_)
      · replace H := H.1 h
        refine w_iconst (n := 1) rfl rfl ?_
        refine w_goto rfl ?_
        refine w_istore_n rfl rfl ?_
        obtain ⟨g1, H⟩ := H
        refine w_iinc rfl rfl rfl g1 ?_
        refine w_goto rfl ?_
        exact wp_ls (sl_s (sl_s (sl_s (sl_0)))) H
      · replace H := H.2 h
        refine w_aload_n rfl rfl ?_
        refine m_geta (t := 0) (k := 80) rfl rfl ?_
        refine w_iload_n rfl rfl ?_
        obtain ⟨g2, H⟩ := H
        refine m_ald rfl (f := 17) (k := 80) rfl g2 ?_
        refine w_aload_n rfl rfl ?_
        refine m_get rfl rfl ?_
        refine w_icmp_ne rfl (fun h => ?_) (fun h => ?_)
        · replace H := H.1 h
          refine w_iconst (n := 0) rfl rfl ?_
          refine w_istore_n rfl rfl ?_
          obtain ⟨g3, H⟩ := H
          refine w_iinc rfl rfl rfl g3 ?_
          refine w_goto rfl ?_
          exact wp_ls (sl_s (sl_s (sl_s (sl_0)))) H
        · replace H := H.2 h
          refine w_iconst (n := 1) rfl rfl ?_
          refine w_goto rfl ?_
          refine w_istore_n rfl rfl ?_
          obtain ⟨g4, H⟩ := H
          refine w_iinc rfl rfl rfl g4 ?_
          refine w_goto rfl ?_
          exact wp_ls (sl_s (sl_s (sl_s (sl_0)))) H
    · replace H := H.2 h
      refine w_aload_n rfl rfl ?_
      refine m_geta (t := 0) (k := 3004) rfl rfl ?_
      refine w_aload_n rfl rfl ?_
      refine m_geta (t := 0) (k := 80) rfl rfl ?_
      refine w_iload_n rfl rfl ?_
      obtain ⟨g5, H⟩ := H
      refine m_ald rfl (f := 17) (k := 80) rfl g5 ?_
      obtain ⟨g6, H⟩ := H
      refine m_ald rfl (f := 9) (k := 3004) rfl g6 ?_
      refine w_if_ne rfl (fun h => ?_) (fun h => ?_)
      · replace H := H.1 h
        refine w_iload_n rfl rfl ?_
        refine w_if_ne rfl (fun h => ?_) (fun h => ?_)
        · replace H := H.1 h
          refine w_iconst (n := 1) rfl rfl ?_
          refine w_goto rfl ?_
          refine w_istore_n rfl rfl ?_
          obtain ⟨g7, H⟩ := H
          refine w_iinc rfl rfl rfl g7 ?_
          refine w_goto rfl ?_
          exact wp_ls (sl_s (sl_s (sl_s (sl_0)))) H
        · replace H := H.2 h
          refine w_aload_n rfl rfl ?_
          refine m_geta (t := 0) (k := 80) rfl rfl ?_
          refine w_iload_n rfl rfl ?_
          refine m_ald rfl (f := 17) (k := 80) rfl g5 ?_
          refine w_aload_n rfl rfl ?_
          refine m_get rfl rfl ?_
          refine w_icmp_ne rfl (fun h => ?_) (fun h => ?_)
          · replace H := H.1 h
            refine w_iconst (n := 0) rfl rfl ?_
            refine w_istore_n rfl rfl ?_
            obtain ⟨g8, H⟩ := H
            refine w_iinc rfl rfl rfl g8 ?_
            refine w_goto rfl ?_
            exact wp_ls (sl_s (sl_s (sl_s (sl_0)))) H
          · replace H := H.2 h
            refine w_iconst (n := 1) rfl rfl ?_
            refine w_goto rfl ?_
            refine w_istore_n rfl rfl ?_
            obtain ⟨g9, H⟩ := H
            refine w_iinc rfl rfl rfl g9 ?_
            refine w_goto rfl ?_
            exact wp_ls (sl_s (sl_s (sl_s (sl_0)))) H
      · replace H := H.2 h
        refine w_aload_n rfl rfl ?_
        refine m_geta (t := 0) (k := 80) rfl rfl ?_
        refine w_iload_n rfl rfl ?_
        refine m_ald rfl (f := 17) (k := 80) rfl g5 ?_
        exact w_iret rfl rfl ⟨_, rfl, H⟩

/-- HoleDeskModel.go(I)I -/
theorem B105 {iv : List (Int × Int)} {L : Nat} {h0 : MH} {d : Nat} {s : SM} {a1 : Int} {F : Int → SM → Prop} (H : ((a1 = 0 → (0 ≤ s.1 16 ∧ s.1 16 < 3004) ∧ cm iv L h0 d 102 [vr 307, vi (s.2 12 (s.1 16))] s (qi fun r3 s2 => F r3 s2)) ∧ (a1 = 1 → (0 ≤ s.1 16 ∧ s.1 16 < 3004) ∧ (0 ≤ s.2 9 (s.1 16) ∧ s.2 9 (s.1 16) < 16) ∧ ((pO (s.2 9 (s.1 16)) ≤ 0 → cm iv L h0 d 102 [vr 307, vi (-9)] s (qi fun r7 s6 => F r7 s6)) ∧ (0 < pO (s.2 9 (s.1 16)) → (-2147483648 ≤ 3 * (s.1 16) ∧ 3 * (s.1 16) ≤ 2147483647) ∧ (0 ≤ 3 * (s.1 16) ∧ 3 * (s.1 16) < 9012) ∧ cm iv L h0 d 102 [vr 307, vi (s.2 14 (3 * (s.1 16)))] s (qi fun r11 s10 => F r11 s10)))) ∧ (a1 = 2 → cm iv L h0 d 103 [vr 307, vi 1] s (qi fun r13 s12 => cm iv L h0 d 102 [vr 307, vi r13] s12 (qi fun r15 s14 => F r15 s14))) ∧ (a1 = 3 → cm iv L h0 d 103 [vr 307, vi (-1)] s (qi fun r17 s16 => cm iv L h0 d 102 [vr 307, vi r17] s16 (qi fun r19 s18 => F r19 s18))) ∧ (a1 = 4 → cm iv L h0 d 104 [vr 307] s (qi fun r21 s20 => cm iv L h0 d 102 [vr 307, vi r21] s20 (qi fun r23 s22 => F r23 s22))) ∧ (a1 = 5 → cm iv L h0 d 102 [vr 307, vi (s.1 15)] s (qi fun r25 s24 => F r25 s24)) ∧ (a1 < 0 ∨ 5 < a1 → F (-1) s))) : cm iv L h0 (d + 1) 105 [vr 307, vi a1] s (qi F) := by
  show wm iv L h0 (d + 1) 105 0 [lr 307, li a1] [] s (qi F)
  refine w_iload_n rfl rfl ?_
  have J40 : (a1 = 0) → wm iv L h0 (d + 1) 105 40 [lr 307, li a1] [] s (qi F) := fun h => by
    replace H := H.1 h
    refine w_aload_n rfl rfl ?_
    refine w_aload_n rfl rfl ?_
    refine m_geta (t := 0) (k := 3004) rfl rfl ?_
    refine w_aload_n rfl rfl ?_
    refine m_get rfl rfl ?_
    obtain ⟨g1, H⟩ := H
    refine m_ald rfl (f := 12) (k := 3004) rfl g1 ?_
    refine m_call (as := [vi (s.2 12 (s.1 16))]) (r := []) rfl rfl rfl rfl rfl rfl (wc_mono H (Nat.le_refl _) ?_)
    rintro _ s2 ⟨r3, rfl, H⟩
    show wm iv L h0 (d + 1) 105 53 [lr 307, li a1] [vi r3] s2 (qi F)
    exact w_iret rfl rfl ⟨_, rfl, H⟩
  have J54 : (a1 = 1) → wm iv L h0 (d + 1) 105 54 [lr 307, li a1] [] s (qi F) := fun h => by
    replace H := H.2.1 h
    refine w_aload_n rfl rfl ?_
    refine w_aload_n rfl rfl ?_
    refine m_geta (t := 0) (k := 3004) rfl rfl ?_
    refine w_aload_n rfl rfl ?_
    refine m_get rfl rfl ?_
    obtain ⟨g4, H⟩ := H
    refine m_ald rfl (f := 9) (k := 3004) rfl g4 ?_
    obtain ⟨g5, H⟩ := H
    refine w_static (as := [vi (s.2 9 (s.1 16))]) (r := [vr 307]) rfl rfl rfl rfl rfl (m_parts g5 ?_)
    show wm iv L h0 (d + 1) 105 67 [lr 307, li a1] [vi (pO (s.2 9 (s.1 16))), vr 307] s (qi F)
    refine w_if_le rfl (fun h => ?_) (fun h => ?_)
    · replace H := H.1 h
      refine w_bipush (n := (-9)) rfl rfl rfl ?_
      refine m_call (as := [vi (-9)]) (r := []) rfl rfl rfl rfl rfl rfl (wc_mono H (Nat.le_refl _) ?_)
      rintro _ s6 ⟨r7, rfl, H⟩
      show wm iv L h0 (d + 1) 105 89 [lr 307, li a1] [vi r7] s6 (qi F)
      exact w_iret rfl rfl ⟨_, rfl, H⟩
    · replace H := H.2 h
      refine w_aload_n rfl rfl ?_
      refine m_geta (t := 0) (k := 9012) rfl rfl ?_
      refine w_iconst (n := 3) rfl rfl ?_
      refine w_aload_n rfl rfl ?_
      refine m_get rfl rfl ?_
      obtain ⟨g8, H⟩ := H
      refine w_imul rfl g8 ?_
      obtain ⟨g9, H⟩ := H
      refine m_ald rfl (f := 14) (k := 9012) rfl g9 ?_
      refine w_goto rfl ?_
      refine m_call (as := [vi (s.2 14 (3 * (s.1 16)))]) (r := []) rfl rfl rfl rfl rfl rfl (wc_mono H (Nat.le_refl _) ?_)
      rintro _ s10 ⟨r11, rfl, H⟩
      show wm iv L h0 (d + 1) 105 89 [lr 307, li a1] [vi r11] s10 (qi F)
      exact w_iret rfl rfl ⟨_, rfl, H⟩
  have J90 : (a1 = 2) → wm iv L h0 (d + 1) 105 90 [lr 307, li a1] [] s (qi F) := fun h => by
    replace H := H.2.2.1 h
    refine w_aload_n rfl rfl ?_
    refine w_aload_n rfl rfl ?_
    refine w_iconst (n := 1) rfl rfl ?_
    refine m_call (as := [vi 1]) (r := [vr 307]) rfl rfl rfl rfl rfl rfl (wc_mono H (Nat.le_refl _) ?_)
    rintro _ s12 ⟨r13, rfl, H⟩
    show wm iv L h0 (d + 1) 105 96 [lr 307, li a1] [vi r13, vr 307] s12 (qi F)
    refine m_call (as := [vi r13]) (r := []) rfl rfl rfl rfl rfl rfl (wc_mono H (Nat.le_refl _) ?_)
    rintro _ s14 ⟨r15, rfl, H⟩
    show wm iv L h0 (d + 1) 105 99 [lr 307, li a1] [vi r15] s14 (qi F)
    exact w_iret rfl rfl ⟨_, rfl, H⟩
  have J100 : (a1 = 3) → wm iv L h0 (d + 1) 105 100 [lr 307, li a1] [] s (qi F) := fun h => by
    replace H := H.2.2.2.1 h
    refine w_aload_n rfl rfl ?_
    refine w_aload_n rfl rfl ?_
    refine w_iconst (n := (-1)) rfl rfl ?_
    refine m_call (as := [vi (-1)]) (r := [vr 307]) rfl rfl rfl rfl rfl rfl (wc_mono H (Nat.le_refl _) ?_)
    rintro _ s16 ⟨r17, rfl, H⟩
    show wm iv L h0 (d + 1) 105 106 [lr 307, li a1] [vi r17, vr 307] s16 (qi F)
    refine m_call (as := [vi r17]) (r := []) rfl rfl rfl rfl rfl rfl (wc_mono H (Nat.le_refl _) ?_)
    rintro _ s18 ⟨r19, rfl, H⟩
    show wm iv L h0 (d + 1) 105 109 [lr 307, li a1] [vi r19] s18 (qi F)
    exact w_iret rfl rfl ⟨_, rfl, H⟩
  have J110 : (a1 = 4) → wm iv L h0 (d + 1) 105 110 [lr 307, li a1] [] s (qi F) := fun h => by
    replace H := H.2.2.2.2.1 h
    refine w_aload_n rfl rfl ?_
    refine w_aload_n rfl rfl ?_
    refine m_call (as := []) (r := [vr 307]) rfl rfl rfl rfl rfl rfl (wc_mono H (Nat.le_refl _) ?_)
    rintro _ s20 ⟨r21, rfl, H⟩
    show wm iv L h0 (d + 1) 105 115 [lr 307, li a1] [vi r21, vr 307] s20 (qi F)
    refine m_call (as := [vi r21]) (r := []) rfl rfl rfl rfl rfl rfl (wc_mono H (Nat.le_refl _) ?_)
    rintro _ s22 ⟨r23, rfl, H⟩
    show wm iv L h0 (d + 1) 105 118 [lr 307, li a1] [vi r23] s22 (qi F)
    exact w_iret rfl rfl ⟨_, rfl, H⟩
  have J119 : (a1 = 5) → wm iv L h0 (d + 1) 105 119 [lr 307, li a1] [] s (qi F) := fun h => by
    replace H := H.2.2.2.2.2.1 h
    refine w_aload_n rfl rfl ?_
    refine w_aload_n rfl rfl ?_
    refine m_get rfl rfl ?_
    refine m_call (as := [vi (s.1 15)]) (r := []) rfl rfl rfl rfl rfl rfl (wc_mono H (Nat.le_refl _) ?_)
    rintro _ s24 ⟨r25, rfl, H⟩
    show wm iv L h0 (d + 1) 105 127 [lr 307, li a1] [vi r25] s24 (qi F)
    exact w_iret rfl rfl ⟨_, rfl, H⟩
  have J128 : (a1 < 0 ∨ 5 < a1) → wm iv L h0 (d + 1) 105 128 [lr 307, li a1] [] s (qi F) := fun h => by
    replace H := H.2.2.2.2.2.2 h
    refine w_iconst (n := (-1)) rfl rfl ?_
    exact w_iret rfl rfl ⟨_, rfl, H⟩
  refine w_tsw (td := 128) (ts := [40, 54, 90, 100, 110, 119]) rfl rfl rfl rfl rfl rfl (fun h => J128 (by omega)) ?_
  exact swA_c (fun h => J40 (by omega)) (swA_c (fun h => J54 (by omega)) (swA_c (fun h => J90 (by omega)) (swA_c (fun h => J100 (by omega)) (swA_c (fun h => J110 (by omega)) (swA_c (fun h => J119 (by omega)) (swA_n))))))

/-- HoleDeskModel.seek(I)I -/
theorem B106 {iv : List (Int × Int)} {L : Nat} {h0 : MH} {d : Nat} {s : SM} {a1 : Int} {F : Int → SM → Prop} (H : cm iv L h0 d 80 [vr 307, vi a1] s (qi fun r2 s1 => ((r2 ≠ 0 → F 1 (us s1 16 a1)) ∧ (r2 = 0 → F (-1) s1)))) : cm iv L h0 (d + 1) 106 [vr 307, vi a1] s (qi F) := by
  show wm iv L h0 (d + 1) 106 0 [lr 307, li a1] [] s (qi F)
  refine w_aload_n rfl rfl ?_
  refine w_iload_n rfl rfl ?_
  refine m_call (as := [vi a1]) (r := []) rfl rfl rfl rfl rfl rfl (wc_mono H (Nat.le_refl _) ?_)
  rintro _ s1 ⟨r2, rfl, H⟩
  show wm iv L h0 (d + 1) 106 5 [lr 307, li a1] [vi r2] s1 (qi F)
  refine w_if_ne rfl (fun h => ?_) (fun h => ?_)
  · replace H := H.1 h
    refine w_aload_n rfl rfl ?_
    refine w_iload_n rfl rfl ?_
    refine m_put rfl rfl rfl ?_
    refine w_iconst (n := 1) rfl rfl ?_
    exact w_iret rfl rfl ⟨_, rfl, H⟩
  · replace H := H.2 h
    refine w_iconst (n := (-1)) rfl rfl ?_
    exact w_iret rfl rfl ⟨_, rfl, H⟩

/-- HoleDeskModel.put(III)I -/
theorem B107 {iv : List (Int × Int)} {L : Nat} {h0 : MH} {d : Nat} {s : SM} {a1 : Int} {a2 : Int} {a3 : Int} {F : Int → SM → Prop} (H : ((0 ≤ a1 ∧ a1 ≤ 15 → ((a1 ≠ 2 → ((a1 = 3 → ((0 ≤ a2 ∧ a2 ≤ 25 → ((a1 = 8 → (3 ≤ s.1 2 ∧ s.1 2 ≤ 40) ∧ ((0 ≤ a3 ∧ a3 < s.1 2 → wm iv L h0 (d + 2) 107 76 [lr 307, li a1, li a2, li a3] [vi 1] s (qi F)) ∧ (a3 < 0 ∨ s.1 2 ≤ a3 → wm iv L h0 (d + 2) 107 76 [lr 307, li a1, li a2, li a3] [vi 0] s (qi F)))) ∧ (a1 ≠ 8 → ((a1 ≠ 15 → wm iv L h0 (d + 2) 107 76 [lr 307, li a1, li a2, li a3] [vi 1] s (qi F)) ∧ (a1 = 15 → (3 ≤ s.1 2 ∧ s.1 2 ≤ 40) ∧ ((0 ≤ a3 ∧ a3 < s.1 2 → wm iv L h0 (d + 2) 107 76 [lr 307, li a1, li a2, li a3] [vi 1] s (qi F)) ∧ (a3 < 0 ∨ s.1 2 ≤ a3 → wm iv L h0 (d + 2) 107 76 [lr 307, li a1, li a2, li a3] [vi 0] s (qi F)))))))) ∧ (a2 < 0 ∨ 25 < a2 → wm iv L h0 (d + 2) 107 76 [lr 307, li a1, li a2, li a3] [vi 0] s (qi F)))) ∧ (a1 ≠ 3 → ((a1 = 8 → ((0 ≤ a2 ∧ a2 ≤ 25 → ((a1 = 8 → (3 ≤ s.1 2 ∧ s.1 2 ≤ 40) ∧ ((0 ≤ a3 ∧ a3 < s.1 2 → wm iv L h0 (d + 2) 107 76 [lr 307, li a1, li a2, li a3] [vi 1] s (qi F)) ∧ (a3 < 0 ∨ s.1 2 ≤ a3 → wm iv L h0 (d + 2) 107 76 [lr 307, li a1, li a2, li a3] [vi 0] s (qi F)))) ∧ (a1 ≠ 8 → ((a1 ≠ 15 → wm iv L h0 (d + 2) 107 76 [lr 307, li a1, li a2, li a3] [vi 1] s (qi F)) ∧ (a1 = 15 → (3 ≤ s.1 2 ∧ s.1 2 ≤ 40) ∧ ((0 ≤ a3 ∧ a3 < s.1 2 → wm iv L h0 (d + 2) 107 76 [lr 307, li a1, li a2, li a3] [vi 1] s (qi F)) ∧ (a3 < 0 ∨ s.1 2 ≤ a3 → wm iv L h0 (d + 2) 107 76 [lr 307, li a1, li a2, li a3] [vi 0] s (qi F)))))))) ∧ (a2 < 0 ∨ 25 < a2 → wm iv L h0 (d + 2) 107 76 [lr 307, li a1, li a2, li a3] [vi 0] s (qi F)))) ∧ (a1 ≠ 8 → ((a1 ≠ 10 → ((a1 = 8 → (3 ≤ s.1 2 ∧ s.1 2 ≤ 40) ∧ ((0 ≤ a3 ∧ a3 < s.1 2 → wm iv L h0 (d + 2) 107 76 [lr 307, li a1, li a2, li a3] [vi 1] s (qi F)) ∧ (a3 < 0 ∨ s.1 2 ≤ a3 → wm iv L h0 (d + 2) 107 76 [lr 307, li a1, li a2, li a3] [vi 0] s (qi F)))) ∧ (a1 ≠ 8 → ((a1 ≠ 15 → wm iv L h0 (d + 2) 107 76 [lr 307, li a1, li a2, li a3] [vi 1] s (qi F)) ∧ (a1 = 15 → (3 ≤ s.1 2 ∧ s.1 2 ≤ 40) ∧ ((0 ≤ a3 ∧ a3 < s.1 2 → wm iv L h0 (d + 2) 107 76 [lr 307, li a1, li a2, li a3] [vi 1] s (qi F)) ∧ (a3 < 0 ∨ s.1 2 ≤ a3 → wm iv L h0 (d + 2) 107 76 [lr 307, li a1, li a2, li a3] [vi 0] s (qi F)))))))) ∧ (a1 = 10 → ((0 ≤ a2 ∧ a2 ≤ 25 → ((a1 = 8 → (3 ≤ s.1 2 ∧ s.1 2 ≤ 40) ∧ ((0 ≤ a3 ∧ a3 < s.1 2 → wm iv L h0 (d + 2) 107 76 [lr 307, li a1, li a2, li a3] [vi 1] s (qi F)) ∧ (a3 < 0 ∨ s.1 2 ≤ a3 → wm iv L h0 (d + 2) 107 76 [lr 307, li a1, li a2, li a3] [vi 0] s (qi F)))) ∧ (a1 ≠ 8 → ((a1 ≠ 15 → wm iv L h0 (d + 2) 107 76 [lr 307, li a1, li a2, li a3] [vi 1] s (qi F)) ∧ (a1 = 15 → (3 ≤ s.1 2 ∧ s.1 2 ≤ 40) ∧ ((0 ≤ a3 ∧ a3 < s.1 2 → wm iv L h0 (d + 2) 107 76 [lr 307, li a1, li a2, li a3] [vi 1] s (qi F)) ∧ (a3 < 0 ∨ s.1 2 ≤ a3 → wm iv L h0 (d + 2) 107 76 [lr 307, li a1, li a2, li a3] [vi 0] s (qi F)))))))) ∧ (a2 < 0 ∨ 25 < a2 → wm iv L h0 (d + 2) 107 76 [lr 307, li a1, li a2, li a3] [vi 0] s (qi F)))))))))) ∧ (a1 = 2 → ((0 ≤ a2 ∧ a2 ≤ 1 → ((a1 = 3 → ((0 ≤ a2 ∧ a2 ≤ 25 → ((a1 = 8 → (3 ≤ s.1 2 ∧ s.1 2 ≤ 40) ∧ ((0 ≤ a3 ∧ a3 < s.1 2 → wm iv L h0 (d + 2) 107 76 [lr 307, li a1, li a2, li a3] [vi 1] s (qi F)) ∧ (a3 < 0 ∨ s.1 2 ≤ a3 → wm iv L h0 (d + 2) 107 76 [lr 307, li a1, li a2, li a3] [vi 0] s (qi F)))) ∧ (a1 ≠ 8 → ((a1 ≠ 15 → wm iv L h0 (d + 2) 107 76 [lr 307, li a1, li a2, li a3] [vi 1] s (qi F)) ∧ (a1 = 15 → (3 ≤ s.1 2 ∧ s.1 2 ≤ 40) ∧ ((0 ≤ a3 ∧ a3 < s.1 2 → wm iv L h0 (d + 2) 107 76 [lr 307, li a1, li a2, li a3] [vi 1] s (qi F)) ∧ (a3 < 0 ∨ s.1 2 ≤ a3 → wm iv L h0 (d + 2) 107 76 [lr 307, li a1, li a2, li a3] [vi 0] s (qi F)))))))) ∧ (a2 < 0 ∨ 25 < a2 → wm iv L h0 (d + 2) 107 76 [lr 307, li a1, li a2, li a3] [vi 0] s (qi F)))) ∧ (a1 ≠ 3 → ((a1 = 8 → ((0 ≤ a2 ∧ a2 ≤ 25 → ((a1 = 8 → (3 ≤ s.1 2 ∧ s.1 2 ≤ 40) ∧ ((0 ≤ a3 ∧ a3 < s.1 2 → wm iv L h0 (d + 2) 107 76 [lr 307, li a1, li a2, li a3] [vi 1] s (qi F)) ∧ (a3 < 0 ∨ s.1 2 ≤ a3 → wm iv L h0 (d + 2) 107 76 [lr 307, li a1, li a2, li a3] [vi 0] s (qi F)))) ∧ (a1 ≠ 8 → ((a1 ≠ 15 → wm iv L h0 (d + 2) 107 76 [lr 307, li a1, li a2, li a3] [vi 1] s (qi F)) ∧ (a1 = 15 → (3 ≤ s.1 2 ∧ s.1 2 ≤ 40) ∧ ((0 ≤ a3 ∧ a3 < s.1 2 → wm iv L h0 (d + 2) 107 76 [lr 307, li a1, li a2, li a3] [vi 1] s (qi F)) ∧ (a3 < 0 ∨ s.1 2 ≤ a3 → wm iv L h0 (d + 2) 107 76 [lr 307, li a1, li a2, li a3] [vi 0] s (qi F)))))))) ∧ (a2 < 0 ∨ 25 < a2 → wm iv L h0 (d + 2) 107 76 [lr 307, li a1, li a2, li a3] [vi 0] s (qi F)))) ∧ (a1 ≠ 8 → ((a1 ≠ 10 → ((a1 = 8 → (3 ≤ s.1 2 ∧ s.1 2 ≤ 40) ∧ ((0 ≤ a3 ∧ a3 < s.1 2 → wm iv L h0 (d + 2) 107 76 [lr 307, li a1, li a2, li a3] [vi 1] s (qi F)) ∧ (a3 < 0 ∨ s.1 2 ≤ a3 → wm iv L h0 (d + 2) 107 76 [lr 307, li a1, li a2, li a3] [vi 0] s (qi F)))) ∧ (a1 ≠ 8 → ((a1 ≠ 15 → wm iv L h0 (d + 2) 107 76 [lr 307, li a1, li a2, li a3] [vi 1] s (qi F)) ∧ (a1 = 15 → (3 ≤ s.1 2 ∧ s.1 2 ≤ 40) ∧ ((0 ≤ a3 ∧ a3 < s.1 2 → wm iv L h0 (d + 2) 107 76 [lr 307, li a1, li a2, li a3] [vi 1] s (qi F)) ∧ (a3 < 0 ∨ s.1 2 ≤ a3 → wm iv L h0 (d + 2) 107 76 [lr 307, li a1, li a2, li a3] [vi 0] s (qi F)))))))) ∧ (a1 = 10 → ((0 ≤ a2 ∧ a2 ≤ 25 → ((a1 = 8 → (3 ≤ s.1 2 ∧ s.1 2 ≤ 40) ∧ ((0 ≤ a3 ∧ a3 < s.1 2 → wm iv L h0 (d + 2) 107 76 [lr 307, li a1, li a2, li a3] [vi 1] s (qi F)) ∧ (a3 < 0 ∨ s.1 2 ≤ a3 → wm iv L h0 (d + 2) 107 76 [lr 307, li a1, li a2, li a3] [vi 0] s (qi F)))) ∧ (a1 ≠ 8 → ((a1 ≠ 15 → wm iv L h0 (d + 2) 107 76 [lr 307, li a1, li a2, li a3] [vi 1] s (qi F)) ∧ (a1 = 15 → (3 ≤ s.1 2 ∧ s.1 2 ≤ 40) ∧ ((0 ≤ a3 ∧ a3 < s.1 2 → wm iv L h0 (d + 2) 107 76 [lr 307, li a1, li a2, li a3] [vi 1] s (qi F)) ∧ (a3 < 0 ∨ s.1 2 ≤ a3 → wm iv L h0 (d + 2) 107 76 [lr 307, li a1, li a2, li a3] [vi 0] s (qi F)))))))) ∧ (a2 < 0 ∨ 25 < a2 → wm iv L h0 (d + 2) 107 76 [lr 307, li a1, li a2, li a3] [vi 0] s (qi F)))))))))) ∧ (a2 < 0 ∨ 1 < a2 → wm iv L h0 (d + 2) 107 76 [lr 307, li a1, li a2, li a3] [vi 0] s (qi F)))))) ∧ (a1 < 0 ∨ 15 < a1 → wm iv L h0 (d + 2) 107 76 [lr 307, li a1, li a2, li a3] [vi 0] s (qi F)))) : cm iv L h0 (d + 2) 107 [vr 307, vi a1, vi a2, vi a3] s (qi F) := by
  show wm iv L h0 (d + 2) 107 0 [lr 307, li a1, li a2, li a3] [] s (qi F)
  refine w_iload_n rfl rfl ?_
  refine w_iconst (n := 0) rfl rfl ?_
  refine w_bipush (n := 15) rfl rfl rfl ?_
  refine w_static (as := [vi a1, vi 0, vi 15]) (r := []) rfl rfl rfl rfl rfl (m_in (fun h => ?_) (fun h => ?_))
  · show wm iv L h0 (d + 2) 107 7 [lr 307, li a1, li a2, li a3] [vi 1] s (qi F)
    replace H := H.1 h
    refine w_if_eq rfl (fun h => absurd h (by decide)) (fun _ => ?_)
    refine w_iload_n rfl rfl ?_
    refine w_iconst (n := 2) rfl rfl ?_
    refine w_icmp_ne rfl (fun h => ?_) (fun h => ?_)
    · replace H := H.1 h
      refine w_iload_n rfl rfl ?_
      refine w_iconst (n := 3) rfl rfl ?_
      refine w_icmp_eq rfl (fun h => ?_) (fun h => ?_)
      · replace H := H.1 h
        refine w_iload_n rfl rfl ?_
        refine w_iconst (n := 0) rfl rfl ?_
        refine w_bipush (n := 25) rfl rfl rfl ?_
        refine w_static (as := [vi a2, vi 0, vi 25]) (r := []) rfl rfl rfl rfl rfl (m_in (fun h => ?_) (fun h => ?_))
        · show wm iv L h0 (d + 2) 107 48 [lr 307, li a1, li a2, li a3] [vi 1] s (qi F)
          replace H := H.1 h
          refine w_if_eq rfl (fun h => absurd h (by decide)) (fun _ => ?_)
          refine w_iload_n rfl rfl ?_
          refine w_bipush (n := 8) rfl rfl rfl ?_
          refine w_icmp_eq rfl (fun h => ?_) (fun h => ?_)
          · replace H := H.1 h
            refine w_aload_n rfl rfl ?_
            refine w_iload_n rfl rfl ?_
            obtain ⟨g1, H⟩ := H
            refine m_call (as := [vi a3]) (r := []) rfl rfl rfl rfl rfl rfl (m_isKind g1 (fun h => ?_) (fun h => ?_))
            · show wm iv L h0 (d + 2) 107 68 [lr 307, li a1, li a2, li a3] [vi 1] s (qi F)
              replace H := H.1 h
              refine w_if_eq rfl (fun h => absurd h (by decide)) (fun _ => ?_)
              refine w_iconst (n := 1) rfl rfl ?_
              refine w_goto rfl ?_
              exact wp_ls (sl_s (sl_s (sl_s (sl_s (sl_0))))) H
            · show wm iv L h0 (d + 2) 107 68 [lr 307, li a1, li a2, li a3] [vi 0] s (qi F)
              replace H := H.2 h
              refine w_if_eq rfl (fun _ => ?_) (fun h => absurd h (by decide))
              refine w_iconst (n := 0) rfl rfl ?_
              exact wp_ls (sl_s (sl_s (sl_s (sl_s (sl_0))))) H
          · replace H := H.2 h
            refine w_iload_n rfl rfl ?_
            refine w_bipush (n := 15) rfl rfl rfl ?_
            refine w_icmp_ne rfl (fun h => ?_) (fun h => ?_)
            · replace H := H.1 h
              refine w_iconst (n := 1) rfl rfl ?_
              refine w_goto rfl ?_
              exact wp_ls (sl_s (sl_s (sl_s (sl_s (sl_0))))) H
            · replace H := H.2 h
              refine w_aload_n rfl rfl ?_
              refine w_iload_n rfl rfl ?_
              obtain ⟨g2, H⟩ := H
              refine m_call (as := [vi a3]) (r := []) rfl rfl rfl rfl rfl rfl (m_isKind g2 (fun h => ?_) (fun h => ?_))
              · show wm iv L h0 (d + 2) 107 68 [lr 307, li a1, li a2, li a3] [vi 1] s (qi F)
                replace H := H.1 h
                refine w_if_eq rfl (fun h => absurd h (by decide)) (fun _ => ?_)
                refine w_iconst (n := 1) rfl rfl ?_
                refine w_goto rfl ?_
                exact wp_ls (sl_s (sl_s (sl_s (sl_s (sl_0))))) H
              · show wm iv L h0 (d + 2) 107 68 [lr 307, li a1, li a2, li a3] [vi 0] s (qi F)
                replace H := H.2 h
                refine w_if_eq rfl (fun _ => ?_) (fun h => absurd h (by decide))
                refine w_iconst (n := 0) rfl rfl ?_
                exact wp_ls (sl_s (sl_s (sl_s (sl_s (sl_0))))) H
        · show wm iv L h0 (d + 2) 107 48 [lr 307, li a1, li a2, li a3] [vi 0] s (qi F)
          replace H := H.2 h
          refine w_if_eq rfl (fun _ => ?_) (fun h => absurd h (by decide))
          refine w_iconst (n := 0) rfl rfl ?_
          exact wp_ls (sl_s (sl_s (sl_s (sl_s (sl_0))))) H
      · replace H := H.2 h
        refine w_iload_n rfl rfl ?_
        refine w_bipush (n := 8) rfl rfl rfl ?_
        refine w_icmp_eq rfl (fun h => ?_) (fun h => ?_)
        · replace H := H.1 h
          refine w_iload_n rfl rfl ?_
          refine w_iconst (n := 0) rfl rfl ?_
          refine w_bipush (n := 25) rfl rfl rfl ?_
          refine w_static (as := [vi a2, vi 0, vi 25]) (r := []) rfl rfl rfl rfl rfl (m_in (fun h => ?_) (fun h => ?_))
          · show wm iv L h0 (d + 2) 107 48 [lr 307, li a1, li a2, li a3] [vi 1] s (qi F)
            replace H := H.1 h
            refine w_if_eq rfl (fun h => absurd h (by decide)) (fun _ => ?_)
            refine w_iload_n rfl rfl ?_
            refine w_bipush (n := 8) rfl rfl rfl ?_
            refine w_icmp_eq rfl (fun h => ?_) (fun h => ?_)
            · replace H := H.1 h
              refine w_aload_n rfl rfl ?_
              refine w_iload_n rfl rfl ?_
              obtain ⟨g3, H⟩ := H
              refine m_call (as := [vi a3]) (r := []) rfl rfl rfl rfl rfl rfl (m_isKind g3 (fun h => ?_) (fun h => ?_))
              · show wm iv L h0 (d + 2) 107 68 [lr 307, li a1, li a2, li a3] [vi 1] s (qi F)
                replace H := H.1 h
                refine w_if_eq rfl (fun h => absurd h (by decide)) (fun _ => ?_)
                refine w_iconst (n := 1) rfl rfl ?_
                refine w_goto rfl ?_
                exact wp_ls (sl_s (sl_s (sl_s (sl_s (sl_0))))) H
              · show wm iv L h0 (d + 2) 107 68 [lr 307, li a1, li a2, li a3] [vi 0] s (qi F)
                replace H := H.2 h
                refine w_if_eq rfl (fun _ => ?_) (fun h => absurd h (by decide))
                refine w_iconst (n := 0) rfl rfl ?_
                exact wp_ls (sl_s (sl_s (sl_s (sl_s (sl_0))))) H
            · replace H := H.2 h
              refine w_iload_n rfl rfl ?_
              refine w_bipush (n := 15) rfl rfl rfl ?_
              refine w_icmp_ne rfl (fun h => ?_) (fun h => ?_)
              · replace H := H.1 h
                refine w_iconst (n := 1) rfl rfl ?_
                refine w_goto rfl ?_
                exact wp_ls (sl_s (sl_s (sl_s (sl_s (sl_0))))) H
              · replace H := H.2 h
                refine w_aload_n rfl rfl ?_
                refine w_iload_n rfl rfl ?_
                obtain ⟨g4, H⟩ := H
                refine m_call (as := [vi a3]) (r := []) rfl rfl rfl rfl rfl rfl (m_isKind g4 (fun h => ?_) (fun h => ?_))
                · show wm iv L h0 (d + 2) 107 68 [lr 307, li a1, li a2, li a3] [vi 1] s (qi F)
                  replace H := H.1 h
                  refine w_if_eq rfl (fun h => absurd h (by decide)) (fun _ => ?_)
                  refine w_iconst (n := 1) rfl rfl ?_
                  refine w_goto rfl ?_
                  exact wp_ls (sl_s (sl_s (sl_s (sl_s (sl_0))))) H
                · show wm iv L h0 (d + 2) 107 68 [lr 307, li a1, li a2, li a3] [vi 0] s (qi F)
                  replace H := H.2 h
                  refine w_if_eq rfl (fun _ => ?_) (fun h => absurd h (by decide))
                  refine w_iconst (n := 0) rfl rfl ?_
                  exact wp_ls (sl_s (sl_s (sl_s (sl_s (sl_0))))) H
          · show wm iv L h0 (d + 2) 107 48 [lr 307, li a1, li a2, li a3] [vi 0] s (qi F)
            replace H := H.2 h
            refine w_if_eq rfl (fun _ => ?_) (fun h => absurd h (by decide))
            refine w_iconst (n := 0) rfl rfl ?_
            exact wp_ls (sl_s (sl_s (sl_s (sl_s (sl_0))))) H
        · replace H := H.2 h
          refine w_iload_n rfl rfl ?_
          refine w_bipush (n := 10) rfl rfl rfl ?_
          refine w_icmp_ne rfl (fun h => ?_) (fun h => ?_)
          · replace H := H.1 h
            refine w_iload_n rfl rfl ?_
            refine w_bipush (n := 8) rfl rfl rfl ?_
            refine w_icmp_eq rfl (fun h => ?_) (fun h => ?_)
            · replace H := H.1 h
              refine w_aload_n rfl rfl ?_
              refine w_iload_n rfl rfl ?_
              obtain ⟨g5, H⟩ := H
              refine m_call (as := [vi a3]) (r := []) rfl rfl rfl rfl rfl rfl (m_isKind g5 (fun h => ?_) (fun h => ?_))
              · show wm iv L h0 (d + 2) 107 68 [lr 307, li a1, li a2, li a3] [vi 1] s (qi F)
                replace H := H.1 h
                refine w_if_eq rfl (fun h => absurd h (by decide)) (fun _ => ?_)
                refine w_iconst (n := 1) rfl rfl ?_
                refine w_goto rfl ?_
                exact wp_ls (sl_s (sl_s (sl_s (sl_s (sl_0))))) H
              · show wm iv L h0 (d + 2) 107 68 [lr 307, li a1, li a2, li a3] [vi 0] s (qi F)
                replace H := H.2 h
                refine w_if_eq rfl (fun _ => ?_) (fun h => absurd h (by decide))
                refine w_iconst (n := 0) rfl rfl ?_
                exact wp_ls (sl_s (sl_s (sl_s (sl_s (sl_0))))) H
            · replace H := H.2 h
              refine w_iload_n rfl rfl ?_
              refine w_bipush (n := 15) rfl rfl rfl ?_
              refine w_icmp_ne rfl (fun h => ?_) (fun h => ?_)
              · replace H := H.1 h
                refine w_iconst (n := 1) rfl rfl ?_
                refine w_goto rfl ?_
                exact wp_ls (sl_s (sl_s (sl_s (sl_s (sl_0))))) H
              · replace H := H.2 h
                refine w_aload_n rfl rfl ?_
                refine w_iload_n rfl rfl ?_
                obtain ⟨g6, H⟩ := H
                refine m_call (as := [vi a3]) (r := []) rfl rfl rfl rfl rfl rfl (m_isKind g6 (fun h => ?_) (fun h => ?_))
                · show wm iv L h0 (d + 2) 107 68 [lr 307, li a1, li a2, li a3] [vi 1] s (qi F)
                  replace H := H.1 h
                  refine w_if_eq rfl (fun h => absurd h (by decide)) (fun _ => ?_)
                  refine w_iconst (n := 1) rfl rfl ?_
                  refine w_goto rfl ?_
                  exact wp_ls (sl_s (sl_s (sl_s (sl_s (sl_0))))) H
                · show wm iv L h0 (d + 2) 107 68 [lr 307, li a1, li a2, li a3] [vi 0] s (qi F)
                  replace H := H.2 h
                  refine w_if_eq rfl (fun _ => ?_) (fun h => absurd h (by decide))
                  refine w_iconst (n := 0) rfl rfl ?_
                  exact wp_ls (sl_s (sl_s (sl_s (sl_s (sl_0))))) H
          · replace H := H.2 h
            refine w_iload_n rfl rfl ?_
            refine w_iconst (n := 0) rfl rfl ?_
            refine w_bipush (n := 25) rfl rfl rfl ?_
            refine w_static (as := [vi a2, vi 0, vi 25]) (r := []) rfl rfl rfl rfl rfl (m_in (fun h => ?_) (fun h => ?_))
            · show wm iv L h0 (d + 2) 107 48 [lr 307, li a1, li a2, li a3] [vi 1] s (qi F)
              replace H := H.1 h
              refine w_if_eq rfl (fun h => absurd h (by decide)) (fun _ => ?_)
              refine w_iload_n rfl rfl ?_
              refine w_bipush (n := 8) rfl rfl rfl ?_
              refine w_icmp_eq rfl (fun h => ?_) (fun h => ?_)
              · replace H := H.1 h
                refine w_aload_n rfl rfl ?_
                refine w_iload_n rfl rfl ?_
                obtain ⟨g7, H⟩ := H
                refine m_call (as := [vi a3]) (r := []) rfl rfl rfl rfl rfl rfl (m_isKind g7 (fun h => ?_) (fun h => ?_))
                · show wm iv L h0 (d + 2) 107 68 [lr 307, li a1, li a2, li a3] [vi 1] s (qi F)
                  replace H := H.1 h
                  refine w_if_eq rfl (fun h => absurd h (by decide)) (fun _ => ?_)
                  refine w_iconst (n := 1) rfl rfl ?_
                  refine w_goto rfl ?_
                  exact wp_ls (sl_s (sl_s (sl_s (sl_s (sl_0))))) H
                · show wm iv L h0 (d + 2) 107 68 [lr 307, li a1, li a2, li a3] [vi 0] s (qi F)
                  replace H := H.2 h
                  refine w_if_eq rfl (fun _ => ?_) (fun h => absurd h (by decide))
                  refine w_iconst (n := 0) rfl rfl ?_
                  exact wp_ls (sl_s (sl_s (sl_s (sl_s (sl_0))))) H
              · replace H := H.2 h
                refine w_iload_n rfl rfl ?_
                refine w_bipush (n := 15) rfl rfl rfl ?_
                refine w_icmp_ne rfl (fun h => ?_) (fun h => ?_)
                · replace H := H.1 h
                  refine w_iconst (n := 1) rfl rfl ?_
                  refine w_goto rfl ?_
                  exact wp_ls (sl_s (sl_s (sl_s (sl_s (sl_0))))) H
                · replace H := H.2 h
                  refine w_aload_n rfl rfl ?_
                  refine w_iload_n rfl rfl ?_
                  obtain ⟨g8, H⟩ := H
                  refine m_call (as := [vi a3]) (r := []) rfl rfl rfl rfl rfl rfl (m_isKind g8 (fun h => ?_) (fun h => ?_))
                  · show wm iv L h0 (d + 2) 107 68 [lr 307, li a1, li a2, li a3] [vi 1] s (qi F)
                    replace H := H.1 h
                    refine w_if_eq rfl (fun h => absurd h (by decide)) (fun _ => ?_)
                    refine w_iconst (n := 1) rfl rfl ?_
                    refine w_goto rfl ?_
                    exact wp_ls (sl_s (sl_s (sl_s (sl_s (sl_0))))) H
                  · show wm iv L h0 (d + 2) 107 68 [lr 307, li a1, li a2, li a3] [vi 0] s (qi F)
                    replace H := H.2 h
                    refine w_if_eq rfl (fun _ => ?_) (fun h => absurd h (by decide))
                    refine w_iconst (n := 0) rfl rfl ?_
                    exact wp_ls (sl_s (sl_s (sl_s (sl_s (sl_0))))) H
            · show wm iv L h0 (d + 2) 107 48 [lr 307, li a1, li a2, li a3] [vi 0] s (qi F)
              replace H := H.2 h
              refine w_if_eq rfl (fun _ => ?_) (fun h => absurd h (by decide))
              refine w_iconst (n := 0) rfl rfl ?_
              exact wp_ls (sl_s (sl_s (sl_s (sl_s (sl_0))))) H
    · replace H := H.2 h
      refine w_iload_n rfl rfl ?_
      refine w_iconst (n := 0) rfl rfl ?_
      refine w_iconst (n := 1) rfl rfl ?_
      refine w_static (as := [vi a2, vi 0, vi 1]) (r := []) rfl rfl rfl rfl rfl (m_in (fun h => ?_) (fun h => ?_))
      · show wm iv L h0 (d + 2) 107 21 [lr 307, li a1, li a2, li a3] [vi 1] s (qi F)
        replace H := H.1 h
        refine w_if_eq rfl (fun h => absurd h (by decide)) (fun _ => ?_)
        refine w_iload_n rfl rfl ?_
        refine w_iconst (n := 3) rfl rfl ?_
        refine w_icmp_eq rfl (fun h => ?_) (fun h => ?_)
        · replace H := H.1 h
          refine w_iload_n rfl rfl ?_
          refine w_iconst (n := 0) rfl rfl ?_
          refine w_bipush (n := 25) rfl rfl rfl ?_
          refine w_static (as := [vi a2, vi 0, vi 25]) (r := []) rfl rfl rfl rfl rfl (m_in (fun h => ?_) (fun h => ?_))
          · show wm iv L h0 (d + 2) 107 48 [lr 307, li a1, li a2, li a3] [vi 1] s (qi F)
            replace H := H.1 h
            refine w_if_eq rfl (fun h => absurd h (by decide)) (fun _ => ?_)
            refine w_iload_n rfl rfl ?_
            refine w_bipush (n := 8) rfl rfl rfl ?_
            refine w_icmp_eq rfl (fun h => ?_) (fun h => ?_)
            · replace H := H.1 h
              refine w_aload_n rfl rfl ?_
              refine w_iload_n rfl rfl ?_
              obtain ⟨g9, H⟩ := H
              refine m_call (as := [vi a3]) (r := []) rfl rfl rfl rfl rfl rfl (m_isKind g9 (fun h => ?_) (fun h => ?_))
              · show wm iv L h0 (d + 2) 107 68 [lr 307, li a1, li a2, li a3] [vi 1] s (qi F)
                replace H := H.1 h
                refine w_if_eq rfl (fun h => absurd h (by decide)) (fun _ => ?_)
                refine w_iconst (n := 1) rfl rfl ?_
                refine w_goto rfl ?_
                exact wp_ls (sl_s (sl_s (sl_s (sl_s (sl_0))))) H
              · show wm iv L h0 (d + 2) 107 68 [lr 307, li a1, li a2, li a3] [vi 0] s (qi F)
                replace H := H.2 h
                refine w_if_eq rfl (fun _ => ?_) (fun h => absurd h (by decide))
                refine w_iconst (n := 0) rfl rfl ?_
                exact wp_ls (sl_s (sl_s (sl_s (sl_s (sl_0))))) H
            · replace H := H.2 h
              refine w_iload_n rfl rfl ?_
              refine w_bipush (n := 15) rfl rfl rfl ?_
              refine w_icmp_ne rfl (fun h => ?_) (fun h => ?_)
              · replace H := H.1 h
                refine w_iconst (n := 1) rfl rfl ?_
                refine w_goto rfl ?_
                exact wp_ls (sl_s (sl_s (sl_s (sl_s (sl_0))))) H
              · replace H := H.2 h
                refine w_aload_n rfl rfl ?_
                refine w_iload_n rfl rfl ?_
                obtain ⟨g10, H⟩ := H
                refine m_call (as := [vi a3]) (r := []) rfl rfl rfl rfl rfl rfl (m_isKind g10 (fun h => ?_) (fun h => ?_))
                · show wm iv L h0 (d + 2) 107 68 [lr 307, li a1, li a2, li a3] [vi 1] s (qi F)
                  replace H := H.1 h
                  refine w_if_eq rfl (fun h => absurd h (by decide)) (fun _ => ?_)
                  refine w_iconst (n := 1) rfl rfl ?_
                  refine w_goto rfl ?_
                  exact wp_ls (sl_s (sl_s (sl_s (sl_s (sl_0))))) H
                · show wm iv L h0 (d + 2) 107 68 [lr 307, li a1, li a2, li a3] [vi 0] s (qi F)
                  replace H := H.2 h
                  refine w_if_eq rfl (fun _ => ?_) (fun h => absurd h (by decide))
                  refine w_iconst (n := 0) rfl rfl ?_
                  exact wp_ls (sl_s (sl_s (sl_s (sl_s (sl_0))))) H
          · show wm iv L h0 (d + 2) 107 48 [lr 307, li a1, li a2, li a3] [vi 0] s (qi F)
            replace H := H.2 h
            refine w_if_eq rfl (fun _ => ?_) (fun h => absurd h (by decide))
            refine w_iconst (n := 0) rfl rfl ?_
            exact wp_ls (sl_s (sl_s (sl_s (sl_s (sl_0))))) H
        · replace H := H.2 h
          refine w_iload_n rfl rfl ?_
          refine w_bipush (n := 8) rfl rfl rfl ?_
          refine w_icmp_eq rfl (fun h => ?_) (fun h => ?_)
          · replace H := H.1 h
            refine w_iload_n rfl rfl ?_
            refine w_iconst (n := 0) rfl rfl ?_
            refine w_bipush (n := 25) rfl rfl rfl ?_
            refine w_static (as := [vi a2, vi 0, vi 25]) (r := []) rfl rfl rfl rfl rfl (m_in (fun h => ?_) (fun h => ?_))
            · show wm iv L h0 (d + 2) 107 48 [lr 307, li a1, li a2, li a3] [vi 1] s (qi F)
              replace H := H.1 h
              refine w_if_eq rfl (fun h => absurd h (by decide)) (fun _ => ?_)
              refine w_iload_n rfl rfl ?_
              refine w_bipush (n := 8) rfl rfl rfl ?_
              refine w_icmp_eq rfl (fun h => ?_) (fun h => ?_)
              · replace H := H.1 h
                refine w_aload_n rfl rfl ?_
                refine w_iload_n rfl rfl ?_
                obtain ⟨g11, H⟩ := H
                refine m_call (as := [vi a3]) (r := []) rfl rfl rfl rfl rfl rfl (m_isKind g11 (fun h => ?_) (fun h => ?_))
                · show wm iv L h0 (d + 2) 107 68 [lr 307, li a1, li a2, li a3] [vi 1] s (qi F)
                  replace H := H.1 h
                  refine w_if_eq rfl (fun h => absurd h (by decide)) (fun _ => ?_)
                  refine w_iconst (n := 1) rfl rfl ?_
                  refine w_goto rfl ?_
                  exact wp_ls (sl_s (sl_s (sl_s (sl_s (sl_0))))) H
                · show wm iv L h0 (d + 2) 107 68 [lr 307, li a1, li a2, li a3] [vi 0] s (qi F)
                  replace H := H.2 h
                  refine w_if_eq rfl (fun _ => ?_) (fun h => absurd h (by decide))
                  refine w_iconst (n := 0) rfl rfl ?_
                  exact wp_ls (sl_s (sl_s (sl_s (sl_s (sl_0))))) H
              · replace H := H.2 h
                refine w_iload_n rfl rfl ?_
                refine w_bipush (n := 15) rfl rfl rfl ?_
                refine w_icmp_ne rfl (fun h => ?_) (fun h => ?_)
                · replace H := H.1 h
                  refine w_iconst (n := 1) rfl rfl ?_
                  refine w_goto rfl ?_
                  exact wp_ls (sl_s (sl_s (sl_s (sl_s (sl_0))))) H
                · replace H := H.2 h
                  refine w_aload_n rfl rfl ?_
                  refine w_iload_n rfl rfl ?_
                  obtain ⟨g12, H⟩ := H
                  refine m_call (as := [vi a3]) (r := []) rfl rfl rfl rfl rfl rfl (m_isKind g12 (fun h => ?_) (fun h => ?_))
                  · show wm iv L h0 (d + 2) 107 68 [lr 307, li a1, li a2, li a3] [vi 1] s (qi F)
                    replace H := H.1 h
                    refine w_if_eq rfl (fun h => absurd h (by decide)) (fun _ => ?_)
                    refine w_iconst (n := 1) rfl rfl ?_
                    refine w_goto rfl ?_
                    exact wp_ls (sl_s (sl_s (sl_s (sl_s (sl_0))))) H
                  · show wm iv L h0 (d + 2) 107 68 [lr 307, li a1, li a2, li a3] [vi 0] s (qi F)
                    replace H := H.2 h
                    refine w_if_eq rfl (fun _ => ?_) (fun h => absurd h (by decide))
                    refine w_iconst (n := 0) rfl rfl ?_
                    exact wp_ls (sl_s (sl_s (sl_s (sl_s (sl_0))))) H
            · show wm iv L h0 (d + 2) 107 48 [lr 307, li a1, li a2, li a3] [vi 0] s (qi F)
              replace H := H.2 h
              refine w_if_eq rfl (fun _ => ?_) (fun h => absurd h (by decide))
              refine w_iconst (n := 0) rfl rfl ?_
              exact wp_ls (sl_s (sl_s (sl_s (sl_s (sl_0))))) H
          · replace H := H.2 h
            refine w_iload_n rfl rfl ?_
            refine w_bipush (n := 10) rfl rfl rfl ?_
            refine w_icmp_ne rfl (fun h => ?_) (fun h => ?_)
            · replace H := H.1 h
              refine w_iload_n rfl rfl ?_
              refine w_bipush (n := 8) rfl rfl rfl ?_
              refine w_icmp_eq rfl (fun h => ?_) (fun h => ?_)
              · replace H := H.1 h
                refine w_aload_n rfl rfl ?_
                refine w_iload_n rfl rfl ?_
                obtain ⟨g13, H⟩ := H
                refine m_call (as := [vi a3]) (r := []) rfl rfl rfl rfl rfl rfl (m_isKind g13 (fun h => ?_) (fun h => ?_))
                · show wm iv L h0 (d + 2) 107 68 [lr 307, li a1, li a2, li a3] [vi 1] s (qi F)
                  replace H := H.1 h
                  refine w_if_eq rfl (fun h => absurd h (by decide)) (fun _ => ?_)
                  refine w_iconst (n := 1) rfl rfl ?_
                  refine w_goto rfl ?_
                  exact wp_ls (sl_s (sl_s (sl_s (sl_s (sl_0))))) H
                · show wm iv L h0 (d + 2) 107 68 [lr 307, li a1, li a2, li a3] [vi 0] s (qi F)
                  replace H := H.2 h
                  refine w_if_eq rfl (fun _ => ?_) (fun h => absurd h (by decide))
                  refine w_iconst (n := 0) rfl rfl ?_
                  exact wp_ls (sl_s (sl_s (sl_s (sl_s (sl_0))))) H
              · replace H := H.2 h
                refine w_iload_n rfl rfl ?_
                refine w_bipush (n := 15) rfl rfl rfl ?_
                refine w_icmp_ne rfl (fun h => ?_) (fun h => ?_)
                · replace H := H.1 h
                  refine w_iconst (n := 1) rfl rfl ?_
                  refine w_goto rfl ?_
                  exact wp_ls (sl_s (sl_s (sl_s (sl_s (sl_0))))) H
                · replace H := H.2 h
                  refine w_aload_n rfl rfl ?_
                  refine w_iload_n rfl rfl ?_
                  obtain ⟨g14, H⟩ := H
                  refine m_call (as := [vi a3]) (r := []) rfl rfl rfl rfl rfl rfl (m_isKind g14 (fun h => ?_) (fun h => ?_))
                  · show wm iv L h0 (d + 2) 107 68 [lr 307, li a1, li a2, li a3] [vi 1] s (qi F)
                    replace H := H.1 h
                    refine w_if_eq rfl (fun h => absurd h (by decide)) (fun _ => ?_)
                    refine w_iconst (n := 1) rfl rfl ?_
                    refine w_goto rfl ?_
                    exact wp_ls (sl_s (sl_s (sl_s (sl_s (sl_0))))) H
                  · show wm iv L h0 (d + 2) 107 68 [lr 307, li a1, li a2, li a3] [vi 0] s (qi F)
                    replace H := H.2 h
                    refine w_if_eq rfl (fun _ => ?_) (fun h => absurd h (by decide))
                    refine w_iconst (n := 0) rfl rfl ?_
                    exact wp_ls (sl_s (sl_s (sl_s (sl_s (sl_0))))) H
            · replace H := H.2 h
              refine w_iload_n rfl rfl ?_
              refine w_iconst (n := 0) rfl rfl ?_
              refine w_bipush (n := 25) rfl rfl rfl ?_
              refine w_static (as := [vi a2, vi 0, vi 25]) (r := []) rfl rfl rfl rfl rfl (m_in (fun h => ?_) (fun h => ?_))
              · show wm iv L h0 (d + 2) 107 48 [lr 307, li a1, li a2, li a3] [vi 1] s (qi F)
                replace H := H.1 h
                refine w_if_eq rfl (fun h => absurd h (by decide)) (fun _ => ?_)
                refine w_iload_n rfl rfl ?_
                refine w_bipush (n := 8) rfl rfl rfl ?_
                refine w_icmp_eq rfl (fun h => ?_) (fun h => ?_)
                · replace H := H.1 h
                  refine w_aload_n rfl rfl ?_
                  refine w_iload_n rfl rfl ?_
                  obtain ⟨g15, H⟩ := H
                  refine m_call (as := [vi a3]) (r := []) rfl rfl rfl rfl rfl rfl (m_isKind g15 (fun h => ?_) (fun h => ?_))
                  · show wm iv L h0 (d + 2) 107 68 [lr 307, li a1, li a2, li a3] [vi 1] s (qi F)
                    replace H := H.1 h
                    refine w_if_eq rfl (fun h => absurd h (by decide)) (fun _ => ?_)
                    refine w_iconst (n := 1) rfl rfl ?_
                    refine w_goto rfl ?_
                    exact wp_ls (sl_s (sl_s (sl_s (sl_s (sl_0))))) H
                  · show wm iv L h0 (d + 2) 107 68 [lr 307, li a1, li a2, li a3] [vi 0] s (qi F)
                    replace H := H.2 h
                    refine w_if_eq rfl (fun _ => ?_) (fun h => absurd h (by decide))
                    refine w_iconst (n := 0) rfl rfl ?_
                    exact wp_ls (sl_s (sl_s (sl_s (sl_s (sl_0))))) H
                · replace H := H.2 h
                  refine w_iload_n rfl rfl ?_
                  refine w_bipush (n := 15) rfl rfl rfl ?_
                  refine w_icmp_ne rfl (fun h => ?_) (fun h => ?_)
                  · replace H := H.1 h
                    refine w_iconst (n := 1) rfl rfl ?_
                    refine w_goto rfl ?_
                    exact wp_ls (sl_s (sl_s (sl_s (sl_s (sl_0))))) H
                  · replace H := H.2 h
                    refine w_aload_n rfl rfl ?_
                    refine w_iload_n rfl rfl ?_
                    obtain ⟨g16, H⟩ := H
                    refine m_call (as := [vi a3]) (r := []) rfl rfl rfl rfl rfl rfl (m_isKind g16 (fun h => ?_) (fun h => ?_))
                    · show wm iv L h0 (d + 2) 107 68 [lr 307, li a1, li a2, li a3] [vi 1] s (qi F)
                      replace H := H.1 h
                      refine w_if_eq rfl (fun h => absurd h (by decide)) (fun _ => ?_)
                      refine w_iconst (n := 1) rfl rfl ?_
                      refine w_goto rfl ?_
                      exact wp_ls (sl_s (sl_s (sl_s (sl_s (sl_0))))) H
                    · show wm iv L h0 (d + 2) 107 68 [lr 307, li a1, li a2, li a3] [vi 0] s (qi F)
                      replace H := H.2 h
                      refine w_if_eq rfl (fun _ => ?_) (fun h => absurd h (by decide))
                      refine w_iconst (n := 0) rfl rfl ?_
                      exact wp_ls (sl_s (sl_s (sl_s (sl_s (sl_0))))) H
              · show wm iv L h0 (d + 2) 107 48 [lr 307, li a1, li a2, li a3] [vi 0] s (qi F)
                replace H := H.2 h
                refine w_if_eq rfl (fun _ => ?_) (fun h => absurd h (by decide))
                refine w_iconst (n := 0) rfl rfl ?_
                exact wp_ls (sl_s (sl_s (sl_s (sl_s (sl_0))))) H
      · show wm iv L h0 (d + 2) 107 21 [lr 307, li a1, li a2, li a3] [vi 0] s (qi F)
        replace H := H.2 h
        refine w_if_eq rfl (fun _ => ?_) (fun h => absurd h (by decide))
        refine w_iconst (n := 0) rfl rfl ?_
        exact wp_ls (sl_s (sl_s (sl_s (sl_s (sl_0))))) H
  · show wm iv L h0 (d + 2) 107 7 [lr 307, li a1, li a2, li a3] [vi 0] s (qi F)
    replace H := H.2 h
    refine w_if_eq rfl (fun _ => ?_) (fun h => absurd h (by decide))
    refine w_iconst (n := 0) rfl rfl ?_
    exact wp_ls (sl_s (sl_s (sl_s (sl_s (sl_0))))) H

/-- HoleDeskModel.put(III)I at 76 -/
theorem B107_76 {iv : List (Int × Int)} {L : Nat} {h0 : MH} {d : Nat} {s : SM} {l1 : Int} {l2 : Int} {l3 : Int} {t0 : Int} {F : Int → SM → Prop} (H : ((t0 ≠ 0 → (0 ≤ s.1 16 ∧ s.1 16 < 3004) ∧ ((s.2 9 (s.1 16) ≠ 0 → (0 ≤ l1 ∧ l1 < 16) ∧ ((l1 = 0 → F (-4) s) ∧ (l1 ≠ 0 → ((pO l1 ≠ 0 → cm iv L h0 (d + 1) 82 [vr 307] s (qi fun r4 s3 => (-2147483648 ≤ r4 + (pO l1) ∧ r4 + (pO l1) ≤ 2147483647) ∧ (-2147483648 ≤ (r4 + (pO l1)) - 0 ∧ (r4 + (pO l1)) - 0 ≤ 2147483647) ∧ ((60 < (r4 + (pO l1)) - 0 → F (-2) s3) ∧ ((r4 + (pO l1)) - 0 ≤ 60 → (-2147483648 ≤ (s3.1 8) + (pO l1) ∧ (s3.1 8) + (pO l1) ≤ 2147483647) ∧ (((s3.1 8) + (pO l1) ≤ 3000 → cm iv L h0 (d + 1) 99 [vr 307] s3 (qv fun s8 => cm iv L h0 (d + 1) 74 [vr 307, vi l1, vi l2, vi l3] s8 (qi fun r10 s9 => cm iv L h0 (d + 1) 77 [vr 307, vi (s8.1 16), vi r10] s9 (qv fun s11 => wm iv L h0 (d + 2) 107 212 [lr 307, ln, ln, ln, ln, li 0, li (pO l1), ln, li (s8.1 16), li r10, li 0] [] s11 (qi F))))) ∧ (3000 < (s3.1 8) + (pO l1) → F (-2) s3)))))) ∧ (pO l1 = 0 → F (-4) s))))) ∧ (s.2 9 (s.1 16) = 0 → (0 ≤ l1 ∧ l1 < 16) ∧ ((l1 = 0 → F (-4) s) ∧ (l1 ≠ 0 → ((pO l1 ≠ 0 → (-2147483648 ≤ 1 + (pO l1) ∧ 1 + (pO l1) ≤ 2147483647) ∧ cm iv L h0 (d + 1) 82 [vr 307] s (qi fun r15 s14 => (-2147483648 ≤ r15 + (1 + (pO l1)) ∧ r15 + (1 + (pO l1)) ≤ 2147483647) ∧ (-2147483648 ≤ (r15 + (1 + (pO l1))) - 1 ∧ (r15 + (1 + (pO l1))) - 1 ≤ 2147483647) ∧ ((60 < (r15 + (1 + (pO l1))) - 1 → F (-2) s14) ∧ ((r15 + (1 + (pO l1))) - 1 ≤ 60 → (-2147483648 ≤ (s14.1 8) + (1 + (pO l1)) ∧ (s14.1 8) + (1 + (pO l1)) ≤ 2147483647) ∧ (((s14.1 8) + (1 + (pO l1)) ≤ 3000 → cm iv L h0 (d + 1) 99 [vr 307] s14 (qv fun s19 => cm iv L h0 (d + 1) 74 [vr 307, vi l1, vi l2, vi l3] s19 (qi fun r21 s20 => cm iv L h0 (d + 1) 77 [vr 307, vi (s19.1 16), vi r21] s20 (qv fun s22 => wm iv L h0 (d + 2) 107 212 [lr 307, ln, ln, ln, ln, li 1, li (pO l1), ln, li (s19.1 16), li r21, li 0] [] s22 (qi F))))) ∧ (3000 < (s14.1 8) + (1 + (pO l1)) → F (-2) s14)))))) ∧ (pO l1 = 0 → (-2147483648 ≤ 1 + (pO l1) ∧ 1 + (pO l1) ≤ 2147483647) ∧ cm iv L h0 (d + 1) 82 [vr 307] s (qi fun r25 s24 => (-2147483648 ≤ r25 + (1 + (pO l1)) ∧ r25 + (1 + (pO l1)) ≤ 2147483647) ∧ (-2147483648 ≤ (r25 + (1 + (pO l1))) - 1 ∧ (r25 + (1 + (pO l1))) - 1 ≤ 2147483647) ∧ ((60 < (r25 + (1 + (pO l1))) - 1 → F (-2) s24) ∧ ((r25 + (1 + (pO l1))) - 1 ≤ 60 → (-2147483648 ≤ (s24.1 8) + (1 + (pO l1)) ∧ (s24.1 8) + (1 + (pO l1)) ≤ 2147483647) ∧ (((s24.1 8) + (1 + (pO l1)) ≤ 3000 → cm iv L h0 (d + 1) 99 [vr 307] s24 (qv fun s29 => cm iv L h0 (d + 1) 74 [vr 307, vi l1, vi l2, vi l3] s29 (qi fun r31 s30 => cm iv L h0 (d + 1) 77 [vr 307, vi (s29.1 16), vi r31] s30 (qv fun s32 => wm iv L h0 (d + 2) 107 212 [lr 307, ln, ln, ln, ln, li 1, li (pO l1), ln, li (s29.1 16), li r31, li 0] [] s32 (qi F))))) ∧ (3000 < (s24.1 8) + (1 + (pO l1)) → F (-2) s24)))))))))))) ∧ (t0 = 0 → F (-1) s))) : wm iv L h0 (d + 2) 107 76 [lr 307, li l1, li l2, li l3] [vi t0] s (qi F) := by
  refine w_istore rfl rfl ?_
  refine w_iload rfl rfl ?_
  refine w_if_ne rfl (fun h => ?_) (fun h => ?_)
  · replace H := H.1 h
    refine w_aload_n rfl rfl ?_
    refine m_geta (t := 0) (k := 3004) rfl rfl ?_
    refine w_aload_n rfl rfl ?_
    refine m_get rfl rfl ?_
    obtain ⟨g1, H⟩ := H
    refine m_ald rfl (f := 9) (k := 3004) rfl g1 ?_
    refine w_if_ne rfl (fun h => ?_) (fun h => ?_)
    · replace H := H.1 h
      refine w_iconst (n := 0) rfl rfl ?_
      refine w_istore rfl rfl ?_
      refine w_iload_n rfl rfl ?_
      obtain ⟨g2, H⟩ := H
      refine w_static (as := [vi l1]) (r := []) rfl rfl rfl rfl rfl (m_parts g2 ?_)
      show wm iv L h0 (d + 2) 107 108 [lr 307, li l1, li l2, li l3, li t0, li 0] [vi (pO l1)] s (qi F)
      refine w_istore rfl rfl ?_
      refine w_iload_n rfl rfl ?_
      refine w_if_eq rfl (fun h => ?_) (fun h => ?_)
      · replace H := H.1 h
        refine w_bipush (n := (-4)) rfl rfl rfl ?_
        exact w_iret rfl rfl ⟨_, rfl, H⟩
      · replace H := H.2 h
        refine w_iload rfl rfl ?_
        refine w_if_ne rfl (fun h => ?_) (fun h => ?_)
        · replace H := H.1 h
          refine w_iload rfl rfl ?_
          refine w_if_eq rfl (fun _ => ?_) (fun h => absurd h (by decide))
          refine w_iload rfl rfl ?_
          refine w_istore rfl rfl ?_
          refine w_aload_n rfl rfl ?_
          refine m_call (as := []) (r := []) rfl rfl rfl rfl rfl rfl (wc_mono H (Nat.le_refl _) ?_)
          rintro _ s3 ⟨r4, rfl, H⟩
          show wm iv L h0 (d + 2) 107 147 [lr 307, li l1, li l2, li l3, li t0, li 0, li (pO l1), li (pO l1)] [vi r4] s3 (qi F)
          refine w_iload rfl rfl ?_
          obtain ⟨g5, H⟩ := H
          refine w_iadd rfl g5 ?_
          refine w_iload rfl rfl ?_
          refine w_if_eq rfl (fun _ => ?_) (fun h => absurd h (by decide))
          refine w_iconst (n := 0) rfl rfl ?_
          obtain ⟨g6, H⟩ := H
          refine w_isub rfl g6 ?_
          refine w_bipush (n := 60) rfl rfl rfl ?_
          refine w_icmp_gt rfl (fun h => ?_) (fun h => ?_)
          · replace H := H.1 h
            refine w_bipush (n := (-2)) rfl rfl rfl ?_
            exact w_iret rfl rfl ⟨_, rfl, H⟩
          · replace H := H.2 h
            refine w_aload_n rfl rfl ?_
            refine m_get rfl rfl ?_
            refine w_iload rfl rfl ?_
            obtain ⟨g7, H⟩ := H
            refine w_iadd rfl g7 ?_
            refine w_sipush (n := 3000) rfl rfl rfl ?_
            refine w_icmp_le rfl (fun h => ?_) (fun h => ?_)
            · replace H := H.1 h
              refine w_aload_n rfl rfl ?_
              refine m_call (as := []) (r := []) rfl rfl rfl rfl rfl rfl (wc_mono H (Nat.le_refl _) ?_)
              rintro _ s8 ⟨rfl, H⟩
              show wm iv L h0 (d + 2) 107 186 [lr 307, li l1, li l2, li l3, li t0, li 0, li (pO l1), li (pO l1)] [] s8 (qi F)
              refine w_aload_n rfl rfl ?_
              refine m_get rfl rfl ?_
              refine w_istore rfl rfl ?_
              refine w_aload_n rfl rfl ?_
              refine w_iload_n rfl rfl ?_
              refine w_iload_n rfl rfl ?_
              refine w_iload_n rfl rfl ?_
              refine m_call (as := [vi l1, vi l2, vi l3]) (r := []) rfl rfl rfl rfl rfl rfl (wc_mono H (Nat.le_refl _) ?_)
              rintro _ s9 ⟨r10, rfl, H⟩
              show wm iv L h0 (d + 2) 107 199 [lr 307, li l1, li l2, li l3, li t0, li 0, li (pO l1), li (pO l1), li (s8.1 16)] [vi r10] s9 (qi F)
              refine w_istore rfl rfl ?_
              refine w_aload_n rfl rfl ?_
              refine w_iload rfl rfl ?_
              refine w_iload rfl rfl ?_
              refine m_call (as := [vi (s8.1 16), vi r10]) (r := []) rfl rfl rfl rfl rfl rfl (wc_mono H (Nat.le_refl _) ?_)
              rintro _ s11 ⟨rfl, H⟩
              show wm iv L h0 (d + 2) 107 209 [lr 307, li l1, li l2, li l3, li t0, li 0, li (pO l1), li (pO l1), li (s8.1 16), li r10] [] s11 (qi F)
              refine w_iconst (n := 0) rfl rfl ?_
              refine w_istore rfl rfl ?_
              exact wp_ls (sl_s (sl_n (sl_n (sl_n (sl_n (sl_s (sl_s (sl_n (sl_s (sl_s (sl_s (sl_0)))))))))))) H
            · replace H := H.2 h
              refine w_bipush (n := (-2)) rfl rfl rfl ?_
              exact w_iret rfl rfl ⟨_, rfl, H⟩
        · replace H := H.2 h
          refine w_iload rfl rfl ?_
          refine w_if_ne rfl (fun h => absurd h (by decide)) (fun _ => ?_)
          refine w_bipush (n := (-4)) rfl rfl rfl ?_
          exact w_iret rfl rfl ⟨_, rfl, H⟩
    · replace H := H.2 h
      refine w_iconst (n := 1) rfl rfl ?_
      refine w_goto rfl ?_
      refine w_istore rfl rfl ?_
      refine w_iload_n rfl rfl ?_
      obtain ⟨g12, H⟩ := H
      refine w_static (as := [vi l1]) (r := []) rfl rfl rfl rfl rfl (m_parts g12 ?_)
      show wm iv L h0 (d + 2) 107 108 [lr 307, li l1, li l2, li l3, li t0, li 1] [vi (pO l1)] s (qi F)
      refine w_istore rfl rfl ?_
      refine w_iload_n rfl rfl ?_
      refine w_if_eq rfl (fun h => ?_) (fun h => ?_)
      · replace H := H.1 h
        refine w_bipush (n := (-4)) rfl rfl rfl ?_
        exact w_iret rfl rfl ⟨_, rfl, H⟩
      · replace H := H.2 h
        refine w_iload rfl rfl ?_
        refine w_if_ne rfl (fun h => ?_) (fun h => ?_)
        · replace H := H.1 h
          refine w_iload rfl rfl ?_
          refine w_if_eq rfl (fun h => absurd h (by decide)) (fun _ => ?_)
          refine w_iconst (n := 1) rfl rfl ?_
          refine w_iload rfl rfl ?_
          obtain ⟨g13, H⟩ := H
          refine w_iadd rfl g13 ?_
          refine w_goto rfl ?_
          refine w_istore rfl rfl ?_
          refine w_aload_n rfl rfl ?_
          refine m_call (as := []) (r := []) rfl rfl rfl rfl rfl rfl (wc_mono H (Nat.le_refl _) ?_)
          rintro _ s14 ⟨r15, rfl, H⟩
          show wm iv L h0 (d + 2) 107 147 [lr 307, li l1, li l2, li l3, li t0, li 1, li (pO l1), li (1 + (pO l1))] [vi r15] s14 (qi F)
          refine w_iload rfl rfl ?_
          obtain ⟨g16, H⟩ := H
          refine w_iadd rfl g16 ?_
          refine w_iload rfl rfl ?_
          refine w_if_eq rfl (fun h => absurd h (by decide)) (fun _ => ?_)
          refine w_iconst (n := 1) rfl rfl ?_
          refine w_goto rfl ?_
          obtain ⟨g17, H⟩ := H
          refine w_isub rfl g17 ?_
          refine w_bipush (n := 60) rfl rfl rfl ?_
          refine w_icmp_gt rfl (fun h => ?_) (fun h => ?_)
          · replace H := H.1 h
            refine w_bipush (n := (-2)) rfl rfl rfl ?_
            exact w_iret rfl rfl ⟨_, rfl, H⟩
          · replace H := H.2 h
            refine w_aload_n rfl rfl ?_
            refine m_get rfl rfl ?_
            refine w_iload rfl rfl ?_
            obtain ⟨g18, H⟩ := H
            refine w_iadd rfl g18 ?_
            refine w_sipush (n := 3000) rfl rfl rfl ?_
            refine w_icmp_le rfl (fun h => ?_) (fun h => ?_)
            · replace H := H.1 h
              refine w_aload_n rfl rfl ?_
              refine m_call (as := []) (r := []) rfl rfl rfl rfl rfl rfl (wc_mono H (Nat.le_refl _) ?_)
              rintro _ s19 ⟨rfl, H⟩
              show wm iv L h0 (d + 2) 107 186 [lr 307, li l1, li l2, li l3, li t0, li 1, li (pO l1), li (1 + (pO l1))] [] s19 (qi F)
              refine w_aload_n rfl rfl ?_
              refine m_get rfl rfl ?_
              refine w_istore rfl rfl ?_
              refine w_aload_n rfl rfl ?_
              refine w_iload_n rfl rfl ?_
              refine w_iload_n rfl rfl ?_
              refine w_iload_n rfl rfl ?_
              refine m_call (as := [vi l1, vi l2, vi l3]) (r := []) rfl rfl rfl rfl rfl rfl (wc_mono H (Nat.le_refl _) ?_)
              rintro _ s20 ⟨r21, rfl, H⟩
              show wm iv L h0 (d + 2) 107 199 [lr 307, li l1, li l2, li l3, li t0, li 1, li (pO l1), li (1 + (pO l1)), li (s19.1 16)] [vi r21] s20 (qi F)
              refine w_istore rfl rfl ?_
              refine w_aload_n rfl rfl ?_
              refine w_iload rfl rfl ?_
              refine w_iload rfl rfl ?_
              refine m_call (as := [vi (s19.1 16), vi r21]) (r := []) rfl rfl rfl rfl rfl rfl (wc_mono H (Nat.le_refl _) ?_)
              rintro _ s22 ⟨rfl, H⟩
              show wm iv L h0 (d + 2) 107 209 [lr 307, li l1, li l2, li l3, li t0, li 1, li (pO l1), li (1 + (pO l1)), li (s19.1 16), li r21] [] s22 (qi F)
              refine w_iconst (n := 0) rfl rfl ?_
              refine w_istore rfl rfl ?_
              exact wp_ls (sl_s (sl_n (sl_n (sl_n (sl_n (sl_s (sl_s (sl_n (sl_s (sl_s (sl_s (sl_0)))))))))))) H
            · replace H := H.2 h
              refine w_bipush (n := (-2)) rfl rfl rfl ?_
              exact w_iret rfl rfl ⟨_, rfl, H⟩
        · replace H := H.2 h
          refine w_iload rfl rfl ?_
          refine w_if_ne rfl (fun _ => ?_) (fun h => absurd h (by decide))
          refine w_iload rfl rfl ?_
          refine w_if_eq rfl (fun h => absurd h (by decide)) (fun _ => ?_)
          refine w_iconst (n := 1) rfl rfl ?_
          refine w_iload rfl rfl ?_
          obtain ⟨g23, H⟩ := H
          refine w_iadd rfl g23 ?_
          refine w_goto rfl ?_
          refine w_istore rfl rfl ?_
          refine w_aload_n rfl rfl ?_
          refine m_call (as := []) (r := []) rfl rfl rfl rfl rfl rfl (wc_mono H (Nat.le_refl _) ?_)
          rintro _ s24 ⟨r25, rfl, H⟩
          show wm iv L h0 (d + 2) 107 147 [lr 307, li l1, li l2, li l3, li t0, li 1, li (pO l1), li (1 + (pO l1))] [vi r25] s24 (qi F)
          refine w_iload rfl rfl ?_
          obtain ⟨g26, H⟩ := H
          refine w_iadd rfl g26 ?_
          refine w_iload rfl rfl ?_
          refine w_if_eq rfl (fun h => absurd h (by decide)) (fun _ => ?_)
          refine w_iconst (n := 1) rfl rfl ?_
          refine w_goto rfl ?_
          obtain ⟨g27, H⟩ := H
          refine w_isub rfl g27 ?_
          refine w_bipush (n := 60) rfl rfl rfl ?_
          refine w_icmp_gt rfl (fun h => ?_) (fun h => ?_)
          · replace H := H.1 h
            refine w_bipush (n := (-2)) rfl rfl rfl ?_
            exact w_iret rfl rfl ⟨_, rfl, H⟩
          · replace H := H.2 h
            refine w_aload_n rfl rfl ?_
            refine m_get rfl rfl ?_
            refine w_iload rfl rfl ?_
            obtain ⟨g28, H⟩ := H
            refine w_iadd rfl g28 ?_
            refine w_sipush (n := 3000) rfl rfl rfl ?_
            refine w_icmp_le rfl (fun h => ?_) (fun h => ?_)
            · replace H := H.1 h
              refine w_aload_n rfl rfl ?_
              refine m_call (as := []) (r := []) rfl rfl rfl rfl rfl rfl (wc_mono H (Nat.le_refl _) ?_)
              rintro _ s29 ⟨rfl, H⟩
              show wm iv L h0 (d + 2) 107 186 [lr 307, li l1, li l2, li l3, li t0, li 1, li (pO l1), li (1 + (pO l1))] [] s29 (qi F)
              refine w_aload_n rfl rfl ?_
              refine m_get rfl rfl ?_
              refine w_istore rfl rfl ?_
              refine w_aload_n rfl rfl ?_
              refine w_iload_n rfl rfl ?_
              refine w_iload_n rfl rfl ?_
              refine w_iload_n rfl rfl ?_
              refine m_call (as := [vi l1, vi l2, vi l3]) (r := []) rfl rfl rfl rfl rfl rfl (wc_mono H (Nat.le_refl _) ?_)
              rintro _ s30 ⟨r31, rfl, H⟩
              show wm iv L h0 (d + 2) 107 199 [lr 307, li l1, li l2, li l3, li t0, li 1, li (pO l1), li (1 + (pO l1)), li (s29.1 16)] [vi r31] s30 (qi F)
              refine w_istore rfl rfl ?_
              refine w_aload_n rfl rfl ?_
              refine w_iload rfl rfl ?_
              refine w_iload rfl rfl ?_
              refine m_call (as := [vi (s29.1 16), vi r31]) (r := []) rfl rfl rfl rfl rfl rfl (wc_mono H (Nat.le_refl _) ?_)
              rintro _ s32 ⟨rfl, H⟩
              show wm iv L h0 (d + 2) 107 209 [lr 307, li l1, li l2, li l3, li t0, li 1, li (pO l1), li (1 + (pO l1)), li (s29.1 16), li r31] [] s32 (qi F)
              refine w_iconst (n := 0) rfl rfl ?_
              refine w_istore rfl rfl ?_
              exact wp_ls (sl_s (sl_n (sl_n (sl_n (sl_n (sl_s (sl_s (sl_n (sl_s (sl_s (sl_s (sl_0)))))))))))) H
            · replace H := H.2 h
              refine w_bipush (n := (-2)) rfl rfl rfl ?_
              exact w_iret rfl rfl ⟨_, rfl, H⟩
  · replace H := H.2 h
    refine w_iconst (n := (-1)) rfl rfl ?_
    exact w_iret rfl rfl ⟨_, rfl, H⟩

/-- HoleDeskModel.put(III)I at 212 -/
theorem B107_212 {iv : List (Int × Int)} {L : Nat} {h0 : MH} {d : Nat} {s : SM} {l5 : Int} {l6 : Int} {l8 : Int} {l9 : Int} {l10 : Int} {F : Int → SM → Prop} (H : ((l6 ≤ l10 → cm iv L h0 (d + 1) 100 [vr 307, vi 0] (us s 16 l9) (qv fun s1 => F l9 s1)) ∧ (l10 < l6 → ((l10 ≠ 0 → cm iv L h0 (d + 1) 74 [vr 307, vi 0, vi (-9), vi (-9)] s (qi fun r3 s2 => cm iv L h0 (d + 1) 76 [vr 307, vi l9, vi l10, vi r3] s2 (qv fun s4 => (-2147483648 ≤ l10 + 1 ∧ l10 + 1 ≤ 2147483647) ∧ wm iv L h0 (d + 2) 107 212 [lr 307, ln, ln, ln, ln, li l5, li l6, ln, li l8, li l9, li (l10 + 1)] [] s4 (qi F)))) ∧ (l10 = 0 → ((l5 ≠ 0 → cm iv L h0 (d + 1) 74 [vr 307, vi 0, vi (-9), vi (-9)] s (qi fun r7 s6 => cm iv L h0 (d + 1) 76 [vr 307, vi l9, vi l10, vi r7] s6 (qv fun s8 => (-2147483648 ≤ l10 + 1 ∧ l10 + 1 ≤ 2147483647) ∧ wm iv L h0 (d + 2) 107 212 [lr 307, ln, ln, ln, ln, li l5, li l6, ln, li l8, li l9, li (l10 + 1)] [] s8 (qi F)))) ∧ (l5 = 0 → cm iv L h0 (d + 1) 76 [vr 307, vi l9, vi l10, vi l8] s (qv fun s10 => (-2147483648 ≤ l10 + 1 ∧ l10 + 1 ≤ 2147483647) ∧ wm iv L h0 (d + 2) 107 212 [lr 307, ln, ln, ln, ln, li l5, li l6, ln, li l8, li l9, li (l10 + 1)] [] s10 (qi F))))))))) : wm iv L h0 (d + 2) 107 212 [lr 307, ln, ln, ln, ln, li l5, li l6, ln, li l8, li l9, li l10] [] s (qi F) := by
  refine w_iload rfl rfl ?_
  refine w_iload rfl rfl ?_
  refine w_icmp_ge rfl (fun h => ?_) (fun h => ?_)
  · replace H := H.1 h
    refine w_aload_n rfl rfl ?_
    refine w_iload rfl rfl ?_
    refine m_put rfl rfl rfl ?_
    refine w_aload_n rfl rfl ?_
    refine w_iconst (n := 0) rfl rfl ?_
    refine m_call (as := [vi 0]) (r := []) rfl rfl rfl rfl rfl rfl (wc_mono H (Nat.le_refl _) ?_)
    rintro _ s1 ⟨rfl, H⟩
    show wm iv L h0 (d + 2) 107 268 [lr 307, ln, ln, ln, ln, li l5, li l6, ln, li l8, li l9, li l10] [] s1 (qi F)
    refine w_iload rfl rfl ?_
    exact w_iret rfl rfl ⟨_, rfl, H⟩
  · replace H := H.2 h
    refine w_aload_n rfl rfl ?_
    refine w_iload rfl rfl ?_
    refine w_iload rfl rfl ?_
    refine w_iload rfl rfl ?_
    refine w_if_ne rfl (fun h => ?_) (fun h => ?_)
    · replace H := H.1 h
      refine w_aload_n rfl rfl ?_
      refine w_iconst (n := 0) rfl rfl ?_
      refine w_bipush (n := (-9)) rfl rfl rfl ?_
      refine w_bipush (n := (-9)) rfl rfl rfl ?_
      refine m_call (as := [vi 0, vi (-9), vi (-9)]) (r := [vi l10, vi l9, vr 307]) rfl rfl rfl rfl rfl rfl (wc_mono H (Nat.le_refl _) ?_)
      rintro _ s2 ⟨r3, rfl, H⟩
      show wm iv L h0 (d + 2) 107 248 [lr 307, ln, ln, ln, ln, li l5, li l6, ln, li l8, li l9, li l10] [vi r3, vi l10, vi l9, vr 307] s2 (qi F)
      refine m_call (as := [vi l9, vi l10, vi r3]) (r := []) rfl rfl rfl rfl rfl rfl (wc_mono H (Nat.le_refl _) ?_)
      rintro _ s4 ⟨rfl, H⟩
      show wm iv L h0 (d + 2) 107 251 [lr 307, ln, ln, ln, ln, li l5, li l6, ln, li l8, li l9, li l10] [] s4 (qi F)
      obtain ⟨g5, H⟩ := H
      refine w_iinc rfl rfl rfl g5 ?_
      refine w_goto rfl ?_
      exact wp_ls (sl_s (sl_n (sl_n (sl_n (sl_n (sl_s (sl_s (sl_n (sl_s (sl_s (sl_s (sl_0)))))))))))) H
    · replace H := H.2 h
      refine w_iload rfl rfl ?_
      refine w_if_ne rfl (fun h => ?_) (fun h => ?_)
      · replace H := H.1 h
        refine w_aload_n rfl rfl ?_
        refine w_iconst (n := 0) rfl rfl ?_
        refine w_bipush (n := (-9)) rfl rfl rfl ?_
        refine w_bipush (n := (-9)) rfl rfl rfl ?_
        refine m_call (as := [vi 0, vi (-9), vi (-9)]) (r := [vi l10, vi l9, vr 307]) rfl rfl rfl rfl rfl rfl (wc_mono H (Nat.le_refl _) ?_)
        rintro _ s6 ⟨r7, rfl, H⟩
        show wm iv L h0 (d + 2) 107 248 [lr 307, ln, ln, ln, ln, li l5, li l6, ln, li l8, li l9, li l10] [vi r7, vi l10, vi l9, vr 307] s6 (qi F)
        refine m_call (as := [vi l9, vi l10, vi r7]) (r := []) rfl rfl rfl rfl rfl rfl (wc_mono H (Nat.le_refl _) ?_)
        rintro _ s8 ⟨rfl, H⟩
        show wm iv L h0 (d + 2) 107 251 [lr 307, ln, ln, ln, ln, li l5, li l6, ln, li l8, li l9, li l10] [] s8 (qi F)
        obtain ⟨g9, H⟩ := H
        refine w_iinc rfl rfl rfl g9 ?_
        refine w_goto rfl ?_
        exact wp_ls (sl_s (sl_n (sl_n (sl_n (sl_n (sl_s (sl_s (sl_n (sl_s (sl_s (sl_s (sl_0)))))))))))) H
      · replace H := H.2 h
        refine w_iload rfl rfl ?_
        refine w_goto rfl ?_
        refine m_call (as := [vi l9, vi l10, vi l8]) (r := []) rfl rfl rfl rfl rfl rfl (wc_mono H (Nat.le_refl _) ?_)
        rintro _ s10 ⟨rfl, H⟩
        show wm iv L h0 (d + 2) 107 251 [lr 307, ln, ln, ln, ln, li l5, li l6, ln, li l8, li l9, li l10] [] s10 (qi F)
        obtain ⟨g11, H⟩ := H
        refine w_iinc rfl rfl rfl g11 ?_
        refine w_goto rfl ?_
        exact wp_ls (sl_s (sl_n (sl_n (sl_n (sl_n (sl_s (sl_s (sl_n (sl_s (sl_s (sl_s (sl_0)))))))))))) H
