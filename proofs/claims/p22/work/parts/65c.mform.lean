/-! What the methods of the reference come to. Printed by wip/gen2/gens.py. -/
/-- HoleDeskModel.take()I -/
theorem B108 {iv : List (Int × Int)} {L : Nat} {h0 : MH} {d : Nat} {s : SM} {F : Int → SM → Prop} (H : (0 ≤ s.1 16 ∧ s.1 16 < 3004) ∧ ((s.2 9 (s.1 16) ≠ 0 → ((s.1 8 ≠ 3000 → cm iv L h0 d 99 [vr 307] s (qv fun s2 => cm iv L h0 d 74 [vr 307, vi 0, vi (-9), vi (-9)] s2 (qi fun r4 s3 => cm iv L h0 d 77 [vr 307, vi (s3.1 16), vi r4] s3 (qv fun s5 => cm iv L h0 d 100 [vr 307, vi 0] (us s5 16 r4) (qv fun s6 => F r4 s6))))) ∧ (s.1 8 = 3000 → F (-2) s))) ∧ (s.2 9 (s.1 16) = 0 → F (-4) s))) : cm iv L h0 (d + 1) 108 [vr 307] s (qi F) := by
  show wm iv L h0 (d + 1) 108 0 [lr 307] [] s (qi F)
  refine w_aload_n rfl rfl ?_
  refine m_geta (t := 0) (k := 3004) rfl rfl ?_
  refine w_aload_n rfl rfl ?_
  refine m_get rfl rfl ?_
  obtain ⟨g1, H⟩ := H
  refine m_ald rfl (f := 9) (k := 3004) rfl g1 ?_
  refine w_if_ne rfl (fun h => ?_) (fun h => ?_)
  · replace H := H.1 h
    refine w_aload_n rfl rfl ?_
    refine m_get rfl rfl ?_
    refine w_sipush (n := 3000) rfl rfl rfl ?_
    refine w_icmp_ne rfl (fun h => ?_) (fun h => ?_)
    · replace H := H.1 h
      refine w_aload_n rfl rfl ?_
      refine m_call (as := []) (r := []) rfl rfl rfl rfl rfl rfl (wc_mono H (Nat.le_refl _) ?_)
      rintro _ s2 ⟨rfl, H⟩
      show wm iv L h0 (d + 1) 108 32 [lr 307] [] s2 (qi F)
      refine w_aload_n rfl rfl ?_
      refine w_iconst (n := 0) rfl rfl ?_
      refine w_bipush (n := (-9)) rfl rfl rfl ?_
      refine w_bipush (n := (-9)) rfl rfl rfl ?_
      refine m_call (as := [vi 0, vi (-9), vi (-9)]) (r := []) rfl rfl rfl rfl rfl rfl (wc_mono H (Nat.le_refl _) ?_)
      rintro _ s3 ⟨r4, rfl, H⟩
      show wm iv L h0 (d + 1) 108 41 [lr 307] [vi r4] s3 (qi F)
      refine w_istore_n rfl rfl ?_
      refine w_aload_n rfl rfl ?_
      refine w_aload_n rfl rfl ?_
      refine m_get rfl rfl ?_
      refine w_iload_n rfl rfl ?_
      refine m_call (as := [vi (s3.1 16), vi r4]) (r := []) rfl rfl rfl rfl rfl rfl (wc_mono H (Nat.le_refl _) ?_)
      rintro _ s5 ⟨rfl, H⟩
      show wm iv L h0 (d + 1) 108 51 [lr 307, li r4] [] s5 (qi F)
      refine w_aload_n rfl rfl ?_
      refine w_iload_n rfl rfl ?_
      refine m_put rfl rfl rfl ?_
      refine w_aload_n rfl rfl ?_
      refine w_iconst (n := 0) rfl rfl ?_
      refine m_call (as := [vi 0]) (r := []) rfl rfl rfl rfl rfl rfl (wc_mono H (Nat.le_refl _) ?_)
      rintro _ s6 ⟨rfl, H⟩
      show wm iv L h0 (d + 1) 108 61 [lr 307, li r4] [] s6 (qi F)
      refine w_iload_n rfl rfl ?_
      exact w_iret rfl rfl ⟨_, rfl, H⟩
    · replace H := H.2 h
      refine w_bipush (n := (-2)) rfl rfl rfl ?_
      exact w_iret rfl rfl ⟨_, rfl, H⟩
  · replace H := H.2 h
    refine w_bipush (n := (-4)) rfl rfl rfl ?_
    exact w_iret rfl rfl ⟨_, rfl, H⟩

/-- HoleDeskModel.unwrap(I)I -/
theorem B109 {iv : List (Int × Int)} {L : Nat} {h0 : MH} {d : Nat} {s : SM} {a1 : Int} {F : Int → SM → Prop} (H : (0 ≤ s.1 16 ∧ s.1 16 < 3004) ∧ (0 ≤ s.2 9 (s.1 16) ∧ s.2 9 (s.1 16) < 16) ∧ ((pO (s.2 9 (s.1 16)) ≠ 0 → (-2147483648 ≤ (pO (s.2 9 (s.1 16))) - 1 ∧ (pO (s.2 9 (s.1 16))) - 1 ≤ 2147483647) ∧ ((0 ≤ a1 ∧ a1 ≤ (pO (s.2 9 (s.1 16))) - 1 → cm iv L h0 d 99 [vr 307] s (qv fun s4 => (-2147483648 ≤ 3 * (s4.1 16) ∧ 3 * (s4.1 16) ≤ 2147483647) ∧ (-2147483648 ≤ (3 * (s4.1 16)) + a1 ∧ (3 * (s4.1 16)) + a1 ≤ 2147483647) ∧ (0 ≤ (3 * (s4.1 16)) + a1 ∧ (3 * (s4.1 16)) + a1 < 9012) ∧ cm iv L h0 d 77 [vr 307, vi (s4.1 16), vi (s4.2 14 ((3 * (s4.1 16)) + a1))] s4 (qv fun s8 => cm iv L h0 d 100 [vr 307, vi 0] (us s8 16 (s4.2 14 ((3 * (s4.1 16)) + a1))) (qv fun s9 => F (s4.2 14 ((3 * (s4.1 16)) + a1)) s9)))) ∧ (a1 < 0 ∨ (pO (s.2 9 (s.1 16))) - 1 < a1 → cm iv L h0 d 61 [vr 307, vi 2] s (qi fun r11 s10 => F r11 s10)))) ∧ (pO (s.2 9 (s.1 16)) = 0 → F (-4) s))) : cm iv L h0 (d + 1) 109 [vr 307, vi a1] s (qi F) := by
  show wm iv L h0 (d + 1) 109 0 [lr 307, li a1] [] s (qi F)
  refine w_aload_n rfl rfl ?_
  refine m_geta (t := 0) (k := 3004) rfl rfl ?_
  refine w_aload_n rfl rfl ?_
  refine m_get rfl rfl ?_
  obtain ⟨g1, H⟩ := H
  refine m_ald rfl (f := 9) (k := 3004) rfl g1 ?_
  obtain ⟨g2, H⟩ := H
  refine w_static (as := [vi (s.2 9 (s.1 16))]) (r := []) rfl rfl rfl rfl rfl (m_parts g2 ?_)
  show wm iv L h0 (d + 1) 109 12 [lr 307, li a1] [vi (pO (s.2 9 (s.1 16)))] s (qi F)
  refine w_istore_n rfl rfl ?_
  refine w_iload_n rfl rfl ?_
  refine w_if_ne rfl (fun h => ?_) (fun h => ?_)
  · replace H := H.1 h
    refine w_iload_n rfl rfl ?_
    refine w_iconst (n := 0) rfl rfl ?_
    refine w_iload_n rfl rfl ?_
    refine w_iconst (n := 1) rfl rfl ?_
    obtain ⟨g3, H⟩ := H
    refine w_isub rfl g3 ?_
    refine w_static (as := [vi a1, vi 0, vi ((pO (s.2 9 (s.1 16))) - 1)]) (r := []) rfl rfl rfl rfl rfl (m_in (fun h => ?_) (fun h => ?_))
    · show wm iv L h0 (d + 1) 109 28 [lr 307, li a1, li (pO (s.2 9 (s.1 16)))] [vi 1] s (qi F)
      replace H := H.1 h
      refine w_if_ne rfl (fun _ => ?_) (fun h => absurd h (by decide))
      refine w_aload_n rfl rfl ?_
      refine m_call (as := []) (r := []) rfl rfl rfl rfl rfl rfl (wc_mono H (Nat.le_refl _) ?_)
      rintro _ s4 ⟨rfl, H⟩
      show wm iv L h0 (d + 1) 109 41 [lr 307, li a1, li (pO (s.2 9 (s.1 16)))] [] s4 (qi F)
      refine w_aload_n rfl rfl ?_
      refine m_geta (t := 0) (k := 9012) rfl rfl ?_
      refine w_iconst (n := 3) rfl rfl ?_
      refine w_aload_n rfl rfl ?_
      refine m_get rfl rfl ?_
      obtain ⟨g5, H⟩ := H
      refine w_imul rfl g5 ?_
      refine w_iload_n rfl rfl ?_
      obtain ⟨g6, H⟩ := H
      refine w_iadd rfl g6 ?_
      obtain ⟨g7, H⟩ := H
      refine m_ald rfl (f := 14) (k := 9012) rfl g7 ?_
      refine w_istore_n rfl rfl ?_
      refine w_aload_n rfl rfl ?_
      refine w_aload_n rfl rfl ?_
      refine m_get rfl rfl ?_
      refine w_iload_n rfl rfl ?_
      refine m_call (as := [vi (s4.1 16), vi (s4.2 14 ((3 * (s4.1 16)) + a1))]) (r := []) rfl rfl rfl rfl rfl rfl (wc_mono H (Nat.le_refl _) ?_)
      rintro _ s8 ⟨rfl, H⟩
      show wm iv L h0 (d + 1) 109 64 [lr 307, li a1, li (pO (s.2 9 (s.1 16))), li (s4.2 14 ((3 * (s4.1 16)) + a1))] [] s8 (qi F)
      refine w_aload_n rfl rfl ?_
      refine w_iload_n rfl rfl ?_
      refine m_put rfl rfl rfl ?_
      refine w_aload_n rfl rfl ?_
      refine w_iconst (n := 0) rfl rfl ?_
      refine m_call (as := [vi 0]) (r := []) rfl rfl rfl rfl rfl rfl (wc_mono H (Nat.le_refl _) ?_)
      rintro _ s9 ⟨rfl, H⟩
      show wm iv L h0 (d + 1) 109 74 [lr 307, li a1, li (pO (s.2 9 (s.1 16))), li (s4.2 14 ((3 * (s4.1 16)) + a1))] [] s9 (qi F)
      refine w_iload_n rfl rfl ?_
      exact w_iret rfl rfl ⟨_, rfl, H⟩
    · show wm iv L h0 (d + 1) 109 28 [lr 307, li a1, li (pO (s.2 9 (s.1 16)))] [vi 0] s (qi F)
      replace H := H.2 h
      refine w_if_ne rfl (fun h => absurd h (by decide)) (fun _ => ?_)
      refine w_aload_n rfl rfl ?_
      refine w_iconst (n := 2) rfl rfl ?_
      refine m_call (as := [vi 2]) (r := []) rfl rfl rfl rfl rfl rfl (wc_mono H (Nat.le_refl _) ?_)
      rintro _ s10 ⟨r11, rfl, H⟩
      show wm iv L h0 (d + 1) 109 36 [lr 307, li a1, li (pO (s.2 9 (s.1 16)))] [vi r11] s10 (qi F)
      exact w_iret rfl rfl ⟨_, rfl, H⟩
  · replace H := H.2 h
    refine w_bipush (n := (-4)) rfl rfl rfl ?_
    exact w_iret rfl rfl ⟨_, rfl, H⟩

/-- HoleDeskModel.write(I)I -/
theorem B110 {iv : List (Int × Int)} {L : Nat} {h0 : MH} {d : Nat} {s : SM} {a1 : Int} {F : Int → SM → Prop} (H : (0 ≤ s.1 16 ∧ s.1 16 < 3004) ∧ ((s.2 9 (s.1 16) = 1 → ((s.2 9 (s.1 16) ≠ 2 → ((s.2 9 (s.1 16) ≠ 3 → cm iv L h0 d 99 [vr 307] s (qv fun s2 => (0 ≤ s2.1 16 ∧ s2.1 16 < 3004) ∧ cm iv L h0 d 100 [vr 307, vi 0] (ua s2 10 (s2.1 16) a1) (qv fun s4 => F (s2.2 10 (s2.1 16)) s4))) ∧ (s.2 9 (s.1 16) = 3 → ((0 ≤ a1 ∧ a1 ≤ 25 → cm iv L h0 d 99 [vr 307] s (qv fun s5 => (0 ≤ s5.1 16 ∧ s5.1 16 < 3004) ∧ cm iv L h0 d 100 [vr 307, vi 0] (ua s5 10 (s5.1 16) a1) (qv fun s7 => F (s5.2 10 (s5.1 16)) s7))) ∧ (a1 < 0 ∨ 25 < a1 → F (-1) s))))) ∧ (s.2 9 (s.1 16) = 2 → ((0 ≤ a1 ∧ a1 ≤ 1 → ((s.2 9 (s.1 16) ≠ 3 → cm iv L h0 d 99 [vr 307] s (qv fun s8 => (0 ≤ s8.1 16 ∧ s8.1 16 < 3004) ∧ cm iv L h0 d 100 [vr 307, vi 0] (ua s8 10 (s8.1 16) a1) (qv fun s10 => F (s8.2 10 (s8.1 16)) s10))) ∧ (s.2 9 (s.1 16) = 3 → ((0 ≤ a1 ∧ a1 ≤ 25 → cm iv L h0 d 99 [vr 307] s (qv fun s11 => (0 ≤ s11.1 16 ∧ s11.1 16 < 3004) ∧ cm iv L h0 d 100 [vr 307, vi 0] (ua s11 10 (s11.1 16) a1) (qv fun s13 => F (s11.2 10 (s11.1 16)) s13))) ∧ (a1 < 0 ∨ 25 < a1 → F (-1) s))))) ∧ (a1 < 0 ∨ 1 < a1 → F (-1) s))))) ∧ (s.2 9 (s.1 16) ≠ 1 → ((s.2 9 (s.1 16) = 2 → ((s.2 9 (s.1 16) ≠ 2 → ((s.2 9 (s.1 16) ≠ 3 → cm iv L h0 d 99 [vr 307] s (qv fun s14 => (0 ≤ s14.1 16 ∧ s14.1 16 < 3004) ∧ cm iv L h0 d 100 [vr 307, vi 0] (ua s14 10 (s14.1 16) a1) (qv fun s16 => F (s14.2 10 (s14.1 16)) s16))) ∧ (s.2 9 (s.1 16) = 3 → ((0 ≤ a1 ∧ a1 ≤ 25 → cm iv L h0 d 99 [vr 307] s (qv fun s17 => (0 ≤ s17.1 16 ∧ s17.1 16 < 3004) ∧ cm iv L h0 d 100 [vr 307, vi 0] (ua s17 10 (s17.1 16) a1) (qv fun s19 => F (s17.2 10 (s17.1 16)) s19))) ∧ (a1 < 0 ∨ 25 < a1 → F (-1) s))))) ∧ (s.2 9 (s.1 16) = 2 → ((0 ≤ a1 ∧ a1 ≤ 1 → ((s.2 9 (s.1 16) ≠ 3 → cm iv L h0 d 99 [vr 307] s (qv fun s20 => (0 ≤ s20.1 16 ∧ s20.1 16 < 3004) ∧ cm iv L h0 d 100 [vr 307, vi 0] (ua s20 10 (s20.1 16) a1) (qv fun s22 => F (s20.2 10 (s20.1 16)) s22))) ∧ (s.2 9 (s.1 16) = 3 → ((0 ≤ a1 ∧ a1 ≤ 25 → cm iv L h0 d 99 [vr 307] s (qv fun s23 => (0 ≤ s23.1 16 ∧ s23.1 16 < 3004) ∧ cm iv L h0 d 100 [vr 307, vi 0] (ua s23 10 (s23.1 16) a1) (qv fun s25 => F (s23.2 10 (s23.1 16)) s25))) ∧ (a1 < 0 ∨ 25 < a1 → F (-1) s))))) ∧ (a1 < 0 ∨ 1 < a1 → F (-1) s))))) ∧ (s.2 9 (s.1 16) ≠ 2 → ((s.2 9 (s.1 16) = 3 → ((s.2 9 (s.1 16) ≠ 2 → ((s.2 9 (s.1 16) ≠ 3 → cm iv L h0 d 99 [vr 307] s (qv fun s26 => (0 ≤ s26.1 16 ∧ s26.1 16 < 3004) ∧ cm iv L h0 d 100 [vr 307, vi 0] (ua s26 10 (s26.1 16) a1) (qv fun s28 => F (s26.2 10 (s26.1 16)) s28))) ∧ (s.2 9 (s.1 16) = 3 → ((0 ≤ a1 ∧ a1 ≤ 25 → cm iv L h0 d 99 [vr 307] s (qv fun s29 => (0 ≤ s29.1 16 ∧ s29.1 16 < 3004) ∧ cm iv L h0 d 100 [vr 307, vi 0] (ua s29 10 (s29.1 16) a1) (qv fun s31 => F (s29.2 10 (s29.1 16)) s31))) ∧ (a1 < 0 ∨ 25 < a1 → F (-1) s))))) ∧ (s.2 9 (s.1 16) = 2 → ((0 ≤ a1 ∧ a1 ≤ 1 → ((s.2 9 (s.1 16) ≠ 3 → cm iv L h0 d 99 [vr 307] s (qv fun s32 => (0 ≤ s32.1 16 ∧ s32.1 16 < 3004) ∧ cm iv L h0 d 100 [vr 307, vi 0] (ua s32 10 (s32.1 16) a1) (qv fun s34 => F (s32.2 10 (s32.1 16)) s34))) ∧ (s.2 9 (s.1 16) = 3 → ((0 ≤ a1 ∧ a1 ≤ 25 → cm iv L h0 d 99 [vr 307] s (qv fun s35 => (0 ≤ s35.1 16 ∧ s35.1 16 < 3004) ∧ cm iv L h0 d 100 [vr 307, vi 0] (ua s35 10 (s35.1 16) a1) (qv fun s37 => F (s35.2 10 (s35.1 16)) s37))) ∧ (a1 < 0 ∨ 25 < a1 → F (-1) s))))) ∧ (a1 < 0 ∨ 1 < a1 → F (-1) s))))) ∧ (s.2 9 (s.1 16) ≠ 3 → F (-4) s))))))) : cm iv L h0 (d + 1) 110 [vr 307, vi a1] s (qi F) := by
  show wm iv L h0 (d + 1) 110 0 [lr 307, li a1] [] s (qi F)
  refine w_aload_n rfl rfl ?_
  refine m_geta (t := 0) (k := 3004) rfl rfl ?_
  refine w_aload_n rfl rfl ?_
  refine m_get rfl rfl ?_
  obtain ⟨g1, H⟩ := H
  refine m_ald rfl (f := 9) (k := 3004) rfl g1 ?_
  refine w_istore_n rfl rfl ?_
  refine w_iload_n rfl rfl ?_
  refine w_iconst (n := 1) rfl rfl ?_
  refine w_icmp_eq rfl (fun h => ?_) (fun h => ?_)
  · replace H := H.1 h
    refine w_iload_n rfl rfl ?_
    refine w_iconst (n := 2) rfl rfl ?_
    refine w_icmp_ne rfl (fun h => ?_) (fun h => ?_)
    · replace H := H.1 h
      refine w_iload_n rfl rfl ?_
      refine w_iconst (n := 3) rfl rfl ?_
      refine w_icmp_ne rfl (fun h => ?_) (fun h => ?_)
      · replace H := H.1 h
        refine w_aload_n rfl rfl ?_
        refine m_call (as := []) (r := []) rfl rfl rfl rfl rfl rfl (wc_mono H (Nat.le_refl _) ?_)
        rintro _ s2 ⟨rfl, H⟩
        show wm iv L h0 (d + 1) 110 63 [lr 307, li a1, li (s.2 9 (s.1 16))] [] s2 (qi F)
        refine w_aload_n rfl rfl ?_
        refine m_geta (t := 0) (k := 3004) rfl rfl ?_
        refine w_aload_n rfl rfl ?_
        refine m_get rfl rfl ?_
        obtain ⟨g3, H⟩ := H
        refine m_ald rfl (f := 10) (k := 3004) rfl g3 ?_
        refine w_istore_n rfl rfl ?_
        refine w_aload_n rfl rfl ?_
        refine m_geta (t := 0) (k := 3004) rfl rfl ?_
        refine w_aload_n rfl rfl ?_
        refine m_get rfl rfl ?_
        refine w_iload_n rfl rfl ?_
        refine m_ast rfl (f := 10) (k := 3004) rfl g3 ?_
        refine w_aload_n rfl rfl ?_
        refine w_iconst (n := 0) rfl rfl ?_
        refine m_call (as := [vi 0]) (r := []) rfl rfl rfl rfl rfl rfl (wc_mono H (Nat.le_refl _) ?_)
        rintro _ s4 ⟨rfl, H⟩
        show wm iv L h0 (d + 1) 110 88 [lr 307, li a1, li (s.2 9 (s.1 16)), li (s2.2 10 (s2.1 16))] [] s4 (qi F)
        refine w_iload_n rfl rfl ?_
        exact w_iret rfl rfl ⟨_, rfl, H⟩
      · replace H := H.2 h
        refine w_iload_n rfl rfl ?_
        refine w_iconst (n := 0) rfl rfl ?_
        refine w_bipush (n := 25) rfl rfl rfl ?_
        refine w_static (as := [vi a1, vi 0, vi 25]) (r := []) rfl rfl rfl rfl rfl (m_in (fun h => ?_) (fun h => ?_))
        · show wm iv L h0 (d + 1) 110 54 [lr 307, li a1, li (s.2 9 (s.1 16))] [vi 1] s (qi F)
          replace H := H.1 h
          refine w_if_ne rfl (fun _ => ?_) (fun h => absurd h (by decide))
          refine w_aload_n rfl rfl ?_
          refine m_call (as := []) (r := []) rfl rfl rfl rfl rfl rfl (wc_mono H (Nat.le_refl _) ?_)
          rintro _ s5 ⟨rfl, H⟩
          show wm iv L h0 (d + 1) 110 63 [lr 307, li a1, li (s.2 9 (s.1 16))] [] s5 (qi F)
          refine w_aload_n rfl rfl ?_
          refine m_geta (t := 0) (k := 3004) rfl rfl ?_
          refine w_aload_n rfl rfl ?_
          refine m_get rfl rfl ?_
          obtain ⟨g6, H⟩ := H
          refine m_ald rfl (f := 10) (k := 3004) rfl g6 ?_
          refine w_istore_n rfl rfl ?_
          refine w_aload_n rfl rfl ?_
          refine m_geta (t := 0) (k := 3004) rfl rfl ?_
          refine w_aload_n rfl rfl ?_
          refine m_get rfl rfl ?_
          refine w_iload_n rfl rfl ?_
          refine m_ast rfl (f := 10) (k := 3004) rfl g6 ?_
          refine w_aload_n rfl rfl ?_
          refine w_iconst (n := 0) rfl rfl ?_
          refine m_call (as := [vi 0]) (r := []) rfl rfl rfl rfl rfl rfl (wc_mono H (Nat.le_refl _) ?_)
          rintro _ s7 ⟨rfl, H⟩
          show wm iv L h0 (d + 1) 110 88 [lr 307, li a1, li (s.2 9 (s.1 16)), li (s5.2 10 (s5.1 16))] [] s7 (qi F)
          refine w_iload_n rfl rfl ?_
          exact w_iret rfl rfl ⟨_, rfl, H⟩
        · show wm iv L h0 (d + 1) 110 54 [lr 307, li a1, li (s.2 9 (s.1 16))] [vi 0] s (qi F)
          replace H := H.2 h
          refine w_if_ne rfl (fun h => absurd h (by decide)) (fun _ => ?_)
          refine w_iconst (n := (-1)) rfl rfl ?_
          exact w_iret rfl rfl ⟨_, rfl, H⟩
    · replace H := H.2 h
      refine w_iload_n rfl rfl ?_
      refine w_iconst (n := 0) rfl rfl ?_
      refine w_iconst (n := 1) rfl rfl ?_
      refine w_static (as := [vi a1, vi 0, vi 1]) (r := []) rfl rfl rfl rfl rfl (m_in (fun h => ?_) (fun h => ?_))
      · show wm iv L h0 (d + 1) 110 39 [lr 307, li a1, li (s.2 9 (s.1 16))] [vi 1] s (qi F)
        replace H := H.1 h
        refine w_if_eq rfl (fun h => absurd h (by decide)) (fun _ => ?_)
        refine w_iload_n rfl rfl ?_
        refine w_iconst (n := 3) rfl rfl ?_
        refine w_icmp_ne rfl (fun h => ?_) (fun h => ?_)
        · replace H := H.1 h
          refine w_aload_n rfl rfl ?_
          refine m_call (as := []) (r := []) rfl rfl rfl rfl rfl rfl (wc_mono H (Nat.le_refl _) ?_)
          rintro _ s8 ⟨rfl, H⟩
          show wm iv L h0 (d + 1) 110 63 [lr 307, li a1, li (s.2 9 (s.1 16))] [] s8 (qi F)
          refine w_aload_n rfl rfl ?_
          refine m_geta (t := 0) (k := 3004) rfl rfl ?_
          refine w_aload_n rfl rfl ?_
          refine m_get rfl rfl ?_
          obtain ⟨g9, H⟩ := H
          refine m_ald rfl (f := 10) (k := 3004) rfl g9 ?_
          refine w_istore_n rfl rfl ?_
          refine w_aload_n rfl rfl ?_
          refine m_geta (t := 0) (k := 3004) rfl rfl ?_
          refine w_aload_n rfl rfl ?_
          refine m_get rfl rfl ?_
          refine w_iload_n rfl rfl ?_
          refine m_ast rfl (f := 10) (k := 3004) rfl g9 ?_
          refine w_aload_n rfl rfl ?_
          refine w_iconst (n := 0) rfl rfl ?_
          refine m_call (as := [vi 0]) (r := []) rfl rfl rfl rfl rfl rfl (wc_mono H (Nat.le_refl _) ?_)
          rintro _ s10 ⟨rfl, H⟩
          show wm iv L h0 (d + 1) 110 88 [lr 307, li a1, li (s.2 9 (s.1 16)), li (s8.2 10 (s8.1 16))] [] s10 (qi F)
          refine w_iload_n rfl rfl ?_
          exact w_iret rfl rfl ⟨_, rfl, H⟩
        · replace H := H.2 h
          refine w_iload_n rfl rfl ?_
          refine w_iconst (n := 0) rfl rfl ?_
          refine w_bipush (n := 25) rfl rfl rfl ?_
          refine w_static (as := [vi a1, vi 0, vi 25]) (r := []) rfl rfl rfl rfl rfl (m_in (fun h => ?_) (fun h => ?_))
          · show wm iv L h0 (d + 1) 110 54 [lr 307, li a1, li (s.2 9 (s.1 16))] [vi 1] s (qi F)
            replace H := H.1 h
            refine w_if_ne rfl (fun _ => ?_) (fun h => absurd h (by decide))
            refine w_aload_n rfl rfl ?_
            refine m_call (as := []) (r := []) rfl rfl rfl rfl rfl rfl (wc_mono H (Nat.le_refl _) ?_)
            rintro _ s11 ⟨rfl, H⟩
            show wm iv L h0 (d + 1) 110 63 [lr 307, li a1, li (s.2 9 (s.1 16))] [] s11 (qi F)
            refine w_aload_n rfl rfl ?_
            refine m_geta (t := 0) (k := 3004) rfl rfl ?_
            refine w_aload_n rfl rfl ?_
            refine m_get rfl rfl ?_
            obtain ⟨g12, H⟩ := H
            refine m_ald rfl (f := 10) (k := 3004) rfl g12 ?_
            refine w_istore_n rfl rfl ?_
            refine w_aload_n rfl rfl ?_
            refine m_geta (t := 0) (k := 3004) rfl rfl ?_
            refine w_aload_n rfl rfl ?_
            refine m_get rfl rfl ?_
            refine w_iload_n rfl rfl ?_
            refine m_ast rfl (f := 10) (k := 3004) rfl g12 ?_
            refine w_aload_n rfl rfl ?_
            refine w_iconst (n := 0) rfl rfl ?_
            refine m_call (as := [vi 0]) (r := []) rfl rfl rfl rfl rfl rfl (wc_mono H (Nat.le_refl _) ?_)
            rintro _ s13 ⟨rfl, H⟩
            show wm iv L h0 (d + 1) 110 88 [lr 307, li a1, li (s.2 9 (s.1 16)), li (s11.2 10 (s11.1 16))] [] s13 (qi F)
            refine w_iload_n rfl rfl ?_
            exact w_iret rfl rfl ⟨_, rfl, H⟩
          · show wm iv L h0 (d + 1) 110 54 [lr 307, li a1, li (s.2 9 (s.1 16))] [vi 0] s (qi F)
            replace H := H.2 h
            refine w_if_ne rfl (fun h => absurd h (by decide)) (fun _ => ?_)
            refine w_iconst (n := (-1)) rfl rfl ?_
            exact w_iret rfl rfl ⟨_, rfl, H⟩
      · show wm iv L h0 (d + 1) 110 39 [lr 307, li a1, li (s.2 9 (s.1 16))] [vi 0] s (qi F)
        replace H := H.2 h
        refine w_if_eq rfl (fun _ => ?_) (fun h => absurd h (by decide))
        refine w_iconst (n := (-1)) rfl rfl ?_
        exact w_iret rfl rfl ⟨_, rfl, H⟩
  · replace H := H.2 h
    refine w_iload_n rfl rfl ?_
    refine w_iconst (n := 2) rfl rfl ?_
    refine w_icmp_eq rfl (fun h => ?_) (fun h => ?_)
    · replace H := H.1 h
      refine w_iload_n rfl rfl ?_
      refine w_iconst (n := 2) rfl rfl ?_
      refine w_icmp_ne rfl (fun h => ?_) (fun h => ?_)
      · replace H := H.1 h
        refine w_iload_n rfl rfl ?_
        refine w_iconst (n := 3) rfl rfl ?_
        refine w_icmp_ne rfl (fun h => ?_) (fun h => ?_)
        · replace H := H.1 h
          refine w_aload_n rfl rfl ?_
          refine m_call (as := []) (r := []) rfl rfl rfl rfl rfl rfl (wc_mono H (Nat.le_refl _) ?_)
          rintro _ s14 ⟨rfl, H⟩
          show wm iv L h0 (d + 1) 110 63 [lr 307, li a1, li (s.2 9 (s.1 16))] [] s14 (qi F)
          refine w_aload_n rfl rfl ?_
          refine m_geta (t := 0) (k := 3004) rfl rfl ?_
          refine w_aload_n rfl rfl ?_
          refine m_get rfl rfl ?_
          obtain ⟨g15, H⟩ := H
          refine m_ald rfl (f := 10) (k := 3004) rfl g15 ?_
          refine w_istore_n rfl rfl ?_
          refine w_aload_n rfl rfl ?_
          refine m_geta (t := 0) (k := 3004) rfl rfl ?_
          refine w_aload_n rfl rfl ?_
          refine m_get rfl rfl ?_
          refine w_iload_n rfl rfl ?_
          refine m_ast rfl (f := 10) (k := 3004) rfl g15 ?_
          refine w_aload_n rfl rfl ?_
          refine w_iconst (n := 0) rfl rfl ?_
          refine m_call (as := [vi 0]) (r := []) rfl rfl rfl rfl rfl rfl (wc_mono H (Nat.le_refl _) ?_)
          rintro _ s16 ⟨rfl, H⟩
          show wm iv L h0 (d + 1) 110 88 [lr 307, li a1, li (s.2 9 (s.1 16)), li (s14.2 10 (s14.1 16))] [] s16 (qi F)
          refine w_iload_n rfl rfl ?_
          exact w_iret rfl rfl ⟨_, rfl, H⟩
        · replace H := H.2 h
          refine w_iload_n rfl rfl ?_
          refine w_iconst (n := 0) rfl rfl ?_
          refine w_bipush (n := 25) rfl rfl rfl ?_
          refine w_static (as := [vi a1, vi 0, vi 25]) (r := []) rfl rfl rfl rfl rfl (m_in (fun h => ?_) (fun h => ?_))
          · show wm iv L h0 (d + 1) 110 54 [lr 307, li a1, li (s.2 9 (s.1 16))] [vi 1] s (qi F)
            replace H := H.1 h
            refine w_if_ne rfl (fun _ => ?_) (fun h => absurd h (by decide))
            refine w_aload_n rfl rfl ?_
            refine m_call (as := []) (r := []) rfl rfl rfl rfl rfl rfl (wc_mono H (Nat.le_refl _) ?_)
            rintro _ s17 ⟨rfl, H⟩
            show wm iv L h0 (d + 1) 110 63 [lr 307, li a1, li (s.2 9 (s.1 16))] [] s17 (qi F)
            refine w_aload_n rfl rfl ?_
            refine m_geta (t := 0) (k := 3004) rfl rfl ?_
            refine w_aload_n rfl rfl ?_
            refine m_get rfl rfl ?_
            obtain ⟨g18, H⟩ := H
            refine m_ald rfl (f := 10) (k := 3004) rfl g18 ?_
            refine w_istore_n rfl rfl ?_
            refine w_aload_n rfl rfl ?_
            refine m_geta (t := 0) (k := 3004) rfl rfl ?_
            refine w_aload_n rfl rfl ?_
            refine m_get rfl rfl ?_
            refine w_iload_n rfl rfl ?_
            refine m_ast rfl (f := 10) (k := 3004) rfl g18 ?_
            refine w_aload_n rfl rfl ?_
            refine w_iconst (n := 0) rfl rfl ?_
            refine m_call (as := [vi 0]) (r := []) rfl rfl rfl rfl rfl rfl (wc_mono H (Nat.le_refl _) ?_)
            rintro _ s19 ⟨rfl, H⟩
            show wm iv L h0 (d + 1) 110 88 [lr 307, li a1, li (s.2 9 (s.1 16)), li (s17.2 10 (s17.1 16))] [] s19 (qi F)
            refine w_iload_n rfl rfl ?_
            exact w_iret rfl rfl ⟨_, rfl, H⟩
          · show wm iv L h0 (d + 1) 110 54 [lr 307, li a1, li (s.2 9 (s.1 16))] [vi 0] s (qi F)
            replace H := H.2 h
            refine w_if_ne rfl (fun h => absurd h (by decide)) (fun _ => ?_)
            refine w_iconst (n := (-1)) rfl rfl ?_
            exact w_iret rfl rfl ⟨_, rfl, H⟩
      · replace H := H.2 h
        refine w_iload_n rfl rfl ?_
        refine w_iconst (n := 0) rfl rfl ?_
        refine w_iconst (n := 1) rfl rfl ?_
        refine w_static (as := [vi a1, vi 0, vi 1]) (r := []) rfl rfl rfl rfl rfl (m_in (fun h => ?_) (fun h => ?_))
        · show wm iv L h0 (d + 1) 110 39 [lr 307, li a1, li (s.2 9 (s.1 16))] [vi 1] s (qi F)
          replace H := H.1 h
          refine w_if_eq rfl (fun h => absurd h (by decide)) (fun _ => ?_)
          refine w_iload_n rfl rfl ?_
          refine w_iconst (n := 3) rfl rfl ?_
          refine w_icmp_ne rfl (fun h => ?_) (fun h => ?_)
          · replace H := H.1 h
            refine w_aload_n rfl rfl ?_
            refine m_call (as := []) (r := []) rfl rfl rfl rfl rfl rfl (wc_mono H (Nat.le_refl _) ?_)
            rintro _ s20 ⟨rfl, H⟩
            show wm iv L h0 (d + 1) 110 63 [lr 307, li a1, li (s.2 9 (s.1 16))] [] s20 (qi F)
            refine w_aload_n rfl rfl ?_
            refine m_geta (t := 0) (k := 3004) rfl rfl ?_
            refine w_aload_n rfl rfl ?_
            refine m_get rfl rfl ?_
            obtain ⟨g21, H⟩ := H
            refine m_ald rfl (f := 10) (k := 3004) rfl g21 ?_
            refine w_istore_n rfl rfl ?_
            refine w_aload_n rfl rfl ?_
            refine m_geta (t := 0) (k := 3004) rfl rfl ?_
            refine w_aload_n rfl rfl ?_
            refine m_get rfl rfl ?_
            refine w_iload_n rfl rfl ?_
            refine m_ast rfl (f := 10) (k := 3004) rfl g21 ?_
            refine w_aload_n rfl rfl ?_
            refine w_iconst (n := 0) rfl rfl ?_
            refine m_call (as := [vi 0]) (r := []) rfl rfl rfl rfl rfl rfl (wc_mono H (Nat.le_refl _) ?_)
            rintro _ s22 ⟨rfl, H⟩
            show wm iv L h0 (d + 1) 110 88 [lr 307, li a1, li (s.2 9 (s.1 16)), li (s20.2 10 (s20.1 16))] [] s22 (qi F)
            refine w_iload_n rfl rfl ?_
            exact w_iret rfl rfl ⟨_, rfl, H⟩
          · replace H := H.2 h
            refine w_iload_n rfl rfl ?_
            refine w_iconst (n := 0) rfl rfl ?_
            refine w_bipush (n := 25) rfl rfl rfl ?_
            refine w_static (as := [vi a1, vi 0, vi 25]) (r := []) rfl rfl rfl rfl rfl (m_in (fun h => ?_) (fun h => ?_))
            · show wm iv L h0 (d + 1) 110 54 [lr 307, li a1, li (s.2 9 (s.1 16))] [vi 1] s (qi F)
              replace H := H.1 h
              refine w_if_ne rfl (fun _ => ?_) (fun h => absurd h (by decide))
              refine w_aload_n rfl rfl ?_
              refine m_call (as := []) (r := []) rfl rfl rfl rfl rfl rfl (wc_mono H (Nat.le_refl _) ?_)
              rintro _ s23 ⟨rfl, H⟩
              show wm iv L h0 (d + 1) 110 63 [lr 307, li a1, li (s.2 9 (s.1 16))] [] s23 (qi F)
              refine w_aload_n rfl rfl ?_
              refine m_geta (t := 0) (k := 3004) rfl rfl ?_
              refine w_aload_n rfl rfl ?_
              refine m_get rfl rfl ?_
              obtain ⟨g24, H⟩ := H
              refine m_ald rfl (f := 10) (k := 3004) rfl g24 ?_
              refine w_istore_n rfl rfl ?_
              refine w_aload_n rfl rfl ?_
              refine m_geta (t := 0) (k := 3004) rfl rfl ?_
              refine w_aload_n rfl rfl ?_
              refine m_get rfl rfl ?_
              refine w_iload_n rfl rfl ?_
              refine m_ast rfl (f := 10) (k := 3004) rfl g24 ?_
              refine w_aload_n rfl rfl ?_
              refine w_iconst (n := 0) rfl rfl ?_
              refine m_call (as := [vi 0]) (r := []) rfl rfl rfl rfl rfl rfl (wc_mono H (Nat.le_refl _) ?_)
              rintro _ s25 ⟨rfl, H⟩
              show wm iv L h0 (d + 1) 110 88 [lr 307, li a1, li (s.2 9 (s.1 16)), li (s23.2 10 (s23.1 16))] [] s25 (qi F)
              refine w_iload_n rfl rfl ?_
              exact w_iret rfl rfl ⟨_, rfl, H⟩
            · show wm iv L h0 (d + 1) 110 54 [lr 307, li a1, li (s.2 9 (s.1 16))] [vi 0] s (qi F)
              replace H := H.2 h
              refine w_if_ne rfl (fun h => absurd h (by decide)) (fun _ => ?_)
              refine w_iconst (n := (-1)) rfl rfl ?_
              exact w_iret rfl rfl ⟨_, rfl, H⟩
        · show wm iv L h0 (d + 1) 110 39 [lr 307, li a1, li (s.2 9 (s.1 16))] [vi 0] s (qi F)
          replace H := H.2 h
          refine w_if_eq rfl (fun _ => ?_) (fun h => absurd h (by decide))
          refine w_iconst (n := (-1)) rfl rfl ?_
          exact w_iret rfl rfl ⟨_, rfl, H⟩
    · replace H := H.2 h
      refine w_iload_n rfl rfl ?_
      refine w_iconst (n := 3) rfl rfl ?_
      refine w_icmp_eq rfl (fun h => ?_) (fun h => ?_)
      · replace H := H.1 h
        refine w_iload_n rfl rfl ?_
        refine w_iconst (n := 2) rfl rfl ?_
        refine w_icmp_ne rfl (fun h => ?_) (fun h => ?_)
        · replace H := H.1 h
          refine w_iload_n rfl rfl ?_
          refine w_iconst (n := 3) rfl rfl ?_
          refine w_icmp_ne rfl (fun h => ?_) (fun h => ?_)
          · replace H := H.1 h
            refine w_aload_n rfl rfl ?_
            refine m_call (as := []) (r := []) rfl rfl rfl rfl rfl rfl (wc_mono H (Nat.le_refl _) ?_)
            rintro _ s26 ⟨rfl, H⟩
            show wm iv L h0 (d + 1) 110 63 [lr 307, li a1, li (s.2 9 (s.1 16))] [] s26 (qi F)
            refine w_aload_n rfl rfl ?_
            refine m_geta (t := 0) (k := 3004) rfl rfl ?_
            refine w_aload_n rfl rfl ?_
            refine m_get rfl rfl ?_
            obtain ⟨g27, H⟩ := H
            refine m_ald rfl (f := 10) (k := 3004) rfl g27 ?_
            refine w_istore_n rfl rfl ?_
            refine w_aload_n rfl rfl ?_
            refine m_geta (t := 0) (k := 3004) rfl rfl ?_
            refine w_aload_n rfl rfl ?_
            refine m_get rfl rfl ?_
            refine w_iload_n rfl rfl ?_
            refine m_ast rfl (f := 10) (k := 3004) rfl g27 ?_
            refine w_aload_n rfl rfl ?_
            refine w_iconst (n := 0) rfl rfl ?_
            refine m_call (as := [vi 0]) (r := []) rfl rfl rfl rfl rfl rfl (wc_mono H (Nat.le_refl _) ?_)
            rintro _ s28 ⟨rfl, H⟩
            show wm iv L h0 (d + 1) 110 88 [lr 307, li a1, li (s.2 9 (s.1 16)), li (s26.2 10 (s26.1 16))] [] s28 (qi F)
            refine w_iload_n rfl rfl ?_
            exact w_iret rfl rfl ⟨_, rfl, H⟩
          · replace H := H.2 h
            refine w_iload_n rfl rfl ?_
            refine w_iconst (n := 0) rfl rfl ?_
            refine w_bipush (n := 25) rfl rfl rfl ?_
            refine w_static (as := [vi a1, vi 0, vi 25]) (r := []) rfl rfl rfl rfl rfl (m_in (fun h => ?_) (fun h => ?_))
            · show wm iv L h0 (d + 1) 110 54 [lr 307, li a1, li (s.2 9 (s.1 16))] [vi 1] s (qi F)
              replace H := H.1 h
              refine w_if_ne rfl (fun _ => ?_) (fun h => absurd h (by decide))
              refine w_aload_n rfl rfl ?_
              refine m_call (as := []) (r := []) rfl rfl rfl rfl rfl rfl (wc_mono H (Nat.le_refl _) ?_)
              rintro _ s29 ⟨rfl, H⟩
              show wm iv L h0 (d + 1) 110 63 [lr 307, li a1, li (s.2 9 (s.1 16))] [] s29 (qi F)
              refine w_aload_n rfl rfl ?_
              refine m_geta (t := 0) (k := 3004) rfl rfl ?_
              refine w_aload_n rfl rfl ?_
              refine m_get rfl rfl ?_
              obtain ⟨g30, H⟩ := H
              refine m_ald rfl (f := 10) (k := 3004) rfl g30 ?_
              refine w_istore_n rfl rfl ?_
              refine w_aload_n rfl rfl ?_
              refine m_geta (t := 0) (k := 3004) rfl rfl ?_
              refine w_aload_n rfl rfl ?_
              refine m_get rfl rfl ?_
              refine w_iload_n rfl rfl ?_
              refine m_ast rfl (f := 10) (k := 3004) rfl g30 ?_
              refine w_aload_n rfl rfl ?_
              refine w_iconst (n := 0) rfl rfl ?_
              refine m_call (as := [vi 0]) (r := []) rfl rfl rfl rfl rfl rfl (wc_mono H (Nat.le_refl _) ?_)
              rintro _ s31 ⟨rfl, H⟩
              show wm iv L h0 (d + 1) 110 88 [lr 307, li a1, li (s.2 9 (s.1 16)), li (s29.2 10 (s29.1 16))] [] s31 (qi F)
              refine w_iload_n rfl rfl ?_
              exact w_iret rfl rfl ⟨_, rfl, H⟩
            · show wm iv L h0 (d + 1) 110 54 [lr 307, li a1, li (s.2 9 (s.1 16))] [vi 0] s (qi F)
              replace H := H.2 h
              refine w_if_ne rfl (fun h => absurd h (by decide)) (fun _ => ?_)
              refine w_iconst (n := (-1)) rfl rfl ?_
              exact w_iret rfl rfl ⟨_, rfl, H⟩
        · replace H := H.2 h
          refine w_iload_n rfl rfl ?_
          refine w_iconst (n := 0) rfl rfl ?_
          refine w_iconst (n := 1) rfl rfl ?_
          refine w_static (as := [vi a1, vi 0, vi 1]) (r := []) rfl rfl rfl rfl rfl (m_in (fun h => ?_) (fun h => ?_))
          · show wm iv L h0 (d + 1) 110 39 [lr 307, li a1, li (s.2 9 (s.1 16))] [vi 1] s (qi F)
            replace H := H.1 h
            refine w_if_eq rfl (fun h => absurd h (by decide)) (fun _ => ?_)
            refine w_iload_n rfl rfl ?_
            refine w_iconst (n := 3) rfl rfl ?_
            refine w_icmp_ne rfl (fun h => ?_) (fun h => ?_)
            · replace H := H.1 h
              refine w_aload_n rfl rfl ?_
              refine m_call (as := []) (r := []) rfl rfl rfl rfl rfl rfl (wc_mono H (Nat.le_refl _) ?_)
              rintro _ s32 ⟨rfl, H⟩
              show wm iv L h0 (d + 1) 110 63 [lr 307, li a1, li (s.2 9 (s.1 16))] [] s32 (qi F)
              refine w_aload_n rfl rfl ?_
              refine m_geta (t := 0) (k := 3004) rfl rfl ?_
              refine w_aload_n rfl rfl ?_
              refine m_get rfl rfl ?_
              obtain ⟨g33, H⟩ := H
              refine m_ald rfl (f := 10) (k := 3004) rfl g33 ?_
              refine w_istore_n rfl rfl ?_
              refine w_aload_n rfl rfl ?_
              refine m_geta (t := 0) (k := 3004) rfl rfl ?_
              refine w_aload_n rfl rfl ?_
              refine m_get rfl rfl ?_
              refine w_iload_n rfl rfl ?_
              refine m_ast rfl (f := 10) (k := 3004) rfl g33 ?_
              refine w_aload_n rfl rfl ?_
              refine w_iconst (n := 0) rfl rfl ?_
              refine m_call (as := [vi 0]) (r := []) rfl rfl rfl rfl rfl rfl (wc_mono H (Nat.le_refl _) ?_)
              rintro _ s34 ⟨rfl, H⟩
              show wm iv L h0 (d + 1) 110 88 [lr 307, li a1, li (s.2 9 (s.1 16)), li (s32.2 10 (s32.1 16))] [] s34 (qi F)
              refine w_iload_n rfl rfl ?_
              exact w_iret rfl rfl ⟨_, rfl, H⟩
            · replace H := H.2 h
              refine w_iload_n rfl rfl ?_
              refine w_iconst (n := 0) rfl rfl ?_
              refine w_bipush (n := 25) rfl rfl rfl ?_
              refine w_static (as := [vi a1, vi 0, vi 25]) (r := []) rfl rfl rfl rfl rfl (m_in (fun h => ?_) (fun h => ?_))
              · show wm iv L h0 (d + 1) 110 54 [lr 307, li a1, li (s.2 9 (s.1 16))] [vi 1] s (qi F)
                replace H := H.1 h
                refine w_if_ne rfl (fun _ => ?_) (fun h => absurd h (by decide))
                refine w_aload_n rfl rfl ?_
                refine m_call (as := []) (r := []) rfl rfl rfl rfl rfl rfl (wc_mono H (Nat.le_refl _) ?_)
                rintro _ s35 ⟨rfl, H⟩
                show wm iv L h0 (d + 1) 110 63 [lr 307, li a1, li (s.2 9 (s.1 16))] [] s35 (qi F)
                refine w_aload_n rfl rfl ?_
                refine m_geta (t := 0) (k := 3004) rfl rfl ?_
                refine w_aload_n rfl rfl ?_
                refine m_get rfl rfl ?_
                obtain ⟨g36, H⟩ := H
                refine m_ald rfl (f := 10) (k := 3004) rfl g36 ?_
                refine w_istore_n rfl rfl ?_
                refine w_aload_n rfl rfl ?_
                refine m_geta (t := 0) (k := 3004) rfl rfl ?_
                refine w_aload_n rfl rfl ?_
                refine m_get rfl rfl ?_
                refine w_iload_n rfl rfl ?_
                refine m_ast rfl (f := 10) (k := 3004) rfl g36 ?_
                refine w_aload_n rfl rfl ?_
                refine w_iconst (n := 0) rfl rfl ?_
                refine m_call (as := [vi 0]) (r := []) rfl rfl rfl rfl rfl rfl (wc_mono H (Nat.le_refl _) ?_)
                rintro _ s37 ⟨rfl, H⟩
                show wm iv L h0 (d + 1) 110 88 [lr 307, li a1, li (s.2 9 (s.1 16)), li (s35.2 10 (s35.1 16))] [] s37 (qi F)
                refine w_iload_n rfl rfl ?_
                exact w_iret rfl rfl ⟨_, rfl, H⟩
              · show wm iv L h0 (d + 1) 110 54 [lr 307, li a1, li (s.2 9 (s.1 16))] [vi 0] s (qi F)
                replace H := H.2 h
                refine w_if_ne rfl (fun h => absurd h (by decide)) (fun _ => ?_)
                refine w_iconst (n := (-1)) rfl rfl ?_
                exact w_iret rfl rfl ⟨_, rfl, H⟩
          · show wm iv L h0 (d + 1) 110 39 [lr 307, li a1, li (s.2 9 (s.1 16))] [vi 0] s (qi F)
            replace H := H.2 h
            refine w_if_eq rfl (fun _ => ?_) (fun h => absurd h (by decide))
            refine w_iconst (n := (-1)) rfl rfl ?_
            exact w_iret rfl rfl ⟨_, rfl, H⟩
      · replace H := H.2 h
        refine w_bipush (n := (-4)) rfl rfl rfl ?_
        exact w_iret rfl rfl ⟨_, rfl, H⟩

/-- HoleDeskModel.rename(I)I -/
theorem B111 {iv : List (Int × Int)} {L : Nat} {h0 : MH} {d : Nat} {s : SM} {a1 : Int} {F : Int → SM → Prop} (H : ((0 ≤ a1 ∧ a1 ≤ 25 → (0 ≤ s.1 16 ∧ s.1 16 < 3004) ∧ ((s.2 9 (s.1 16) = 8 → cm iv L h0 d 99 [vr 307] s (qv fun s2 => (0 ≤ s2.1 16 ∧ s2.1 16 < 3004) ∧ wm iv L h0 (d + 1) 111 62 [lr 307, li a1, li (s2.2 10 (s2.1 16)), li 0, li 0] [] s2 (qi F))) ∧ (s.2 9 (s.1 16) ≠ 8 → ((s.2 9 (s.1 16) = 10 → cm iv L h0 d 99 [vr 307] s (qv fun s4 => (0 ≤ s4.1 16 ∧ s4.1 16 < 3004) ∧ wm iv L h0 (d + 1) 111 62 [lr 307, li a1, li (s4.2 10 (s4.1 16)), li 0, li 0] [] s4 (qi F))) ∧ (s.2 9 (s.1 16) ≠ 10 → F (-4) s))))) ∧ (a1 < 0 ∨ 25 < a1 → F (-1) s))) : cm iv L h0 (d + 1) 111 [vr 307, vi a1] s (qi F) := by
  show wm iv L h0 (d + 1) 111 0 [lr 307, li a1] [] s (qi F)
  refine w_iload_n rfl rfl ?_
  refine w_iconst (n := 0) rfl rfl ?_
  refine w_bipush (n := 25) rfl rfl rfl ?_
  refine w_static (as := [vi a1, vi 0, vi 25]) (r := []) rfl rfl rfl rfl rfl (m_in (fun h => ?_) (fun h => ?_))
  · show wm iv L h0 (d + 1) 111 7 [lr 307, li a1] [vi 1] s (qi F)
    replace H := H.1 h
    refine w_if_ne rfl (fun _ => ?_) (fun h => absurd h (by decide))
    refine w_aload_n rfl rfl ?_
    refine m_geta (t := 0) (k := 3004) rfl rfl ?_
    refine w_aload_n rfl rfl ?_
    refine m_get rfl rfl ?_
    obtain ⟨g1, H⟩ := H
    refine m_ald rfl (f := 9) (k := 3004) rfl g1 ?_
    refine w_bipush (n := 8) rfl rfl rfl ?_
    refine w_icmp_eq rfl (fun h => ?_) (fun h => ?_)
    · replace H := H.1 h
      refine w_aload_n rfl rfl ?_
      refine m_call (as := []) (r := []) rfl rfl rfl rfl rfl rfl (wc_mono H (Nat.le_refl _) ?_)
      rintro _ s2 ⟨rfl, H⟩
      show wm iv L h0 (d + 1) 111 47 [lr 307, li a1] [] s2 (qi F)
      refine w_aload_n rfl rfl ?_
      refine m_geta (t := 0) (k := 3004) rfl rfl ?_
      refine w_aload_n rfl rfl ?_
      refine m_get rfl rfl ?_
      obtain ⟨g3, H⟩ := H
      refine m_ald rfl (f := 10) (k := 3004) rfl g3 ?_
      refine w_istore_n rfl rfl ?_
      refine w_iconst (n := 0) rfl rfl ?_
      refine w_istore_n rfl rfl ?_
      refine w_iconst (n := 0) rfl rfl ?_
      refine w_istore rfl rfl ?_
      exact wp_ls (sl_s (sl_s (sl_s (sl_s (sl_s (sl_0)))))) H
    · replace H := H.2 h
      refine w_aload_n rfl rfl ?_
      refine m_geta (t := 0) (k := 3004) rfl rfl ?_
      refine w_aload_n rfl rfl ?_
      refine m_get rfl rfl ?_
      refine m_ald rfl (f := 9) (k := 3004) rfl g1 ?_
      refine w_bipush (n := 10) rfl rfl rfl ?_
      refine w_icmp_eq rfl (fun h => ?_) (fun h => ?_)
      · replace H := H.1 h
        refine w_aload_n rfl rfl ?_
        refine m_call (as := []) (r := []) rfl rfl rfl rfl rfl rfl (wc_mono H (Nat.le_refl _) ?_)
        rintro _ s4 ⟨rfl, H⟩
        show wm iv L h0 (d + 1) 111 47 [lr 307, li a1] [] s4 (qi F)
        refine w_aload_n rfl rfl ?_
        refine m_geta (t := 0) (k := 3004) rfl rfl ?_
        refine w_aload_n rfl rfl ?_
        refine m_get rfl rfl ?_
        obtain ⟨g5, H⟩ := H
        refine m_ald rfl (f := 10) (k := 3004) rfl g5 ?_
        refine w_istore_n rfl rfl ?_
        refine w_iconst (n := 0) rfl rfl ?_
        refine w_istore_n rfl rfl ?_
        refine w_iconst (n := 0) rfl rfl ?_
        refine w_istore rfl rfl ?_
        exact wp_ls (sl_s (sl_s (sl_s (sl_s (sl_s (sl_0)))))) H
      · replace H := H.2 h
        refine w_bipush (n := (-4)) rfl rfl rfl ?_
        exact w_iret rfl rfl ⟨_, rfl, H⟩
  · show wm iv L h0 (d + 1) 111 7 [lr 307, li a1] [vi 0] s (qi F)
    replace H := H.2 h
    refine w_if_ne rfl (fun h => absurd h (by decide)) (fun _ => ?_)
    refine w_iconst (n := (-1)) rfl rfl ?_
    exact w_iret rfl rfl ⟨_, rfl, H⟩

/-- HoleDeskModel.rename(I)I at 62 -/
theorem B111_62 {iv : List (Int × Int)} {L : Nat} {h0 : MH} {d : Nat} {s : SM} {l1 : Int} {l2 : Int} {l3 : Int} {l4 : Int} {F : Int → SM → Prop} (H : ((s.1 18 ≤ l4 → (0 ≤ s.1 16 ∧ s.1 16 < 3004) ∧ wm iv L h0 (d + 1) 111 174 [lr 307, li l1, li l2, li l3, li 0, li 0] [] (ua s 10 (s.1 16) l1) (qi F)) ∧ (l4 < s.1 18 → (0 ≤ l4 ∧ l4 < 80) ∧ (0 ≤ s.2 17 l4 ∧ s.2 17 l4 < 3004) ∧ ((s.2 9 (s.2 17 l4) ≠ 3 → (((ua s 36 l4 0).2 36 l4 = 0 → (-2147483648 ≤ l3 + 0 ∧ l3 + 0 ≤ 2147483647) ∧ (-2147483648 ≤ l4 + 1 ∧ l4 + 1 ≤ 2147483647) ∧ wm iv L h0 (d + 1) 111 62 [lr 307, li l1, li l2, li (l3 + 0), li (l4 + 1)] [] (ua s 36 l4 0) (qi F)) ∧ ((ua s 36 l4 0).2 36 l4 ≠ 0 → (-2147483648 ≤ l3 + 1 ∧ l3 + 1 ≤ 2147483647) ∧ (-2147483648 ≤ l4 + 1 ∧ l4 + 1 ≤ 2147483647) ∧ wm iv L h0 (d + 1) 111 62 [lr 307, li l1, li l2, li (l3 + 1), li (l4 + 1)] [] (ua s 36 l4 0) (qi F)))) ∧ (s.2 9 (s.2 17 l4) = 3 → ((s.2 10 (s.2 17 l4) ≠ l2 → (((ua s 36 l4 0).2 36 l4 = 0 → (-2147483648 ≤ l3 + 0 ∧ l3 + 0 ≤ 2147483647) ∧ (-2147483648 ≤ l4 + 1 ∧ l4 + 1 ≤ 2147483647) ∧ wm iv L h0 (d + 1) 111 62 [lr 307, li l1, li l2, li (l3 + 0), li (l4 + 1)] [] (ua s 36 l4 0) (qi F)) ∧ ((ua s 36 l4 0).2 36 l4 ≠ 0 → (-2147483648 ≤ l3 + 1 ∧ l3 + 1 ≤ 2147483647) ∧ (-2147483648 ≤ l4 + 1 ∧ l4 + 1 ≤ 2147483647) ∧ wm iv L h0 (d + 1) 111 62 [lr 307, li l1, li l2, li (l3 + 1), li (l4 + 1)] [] (ua s 36 l4 0) (qi F)))) ∧ (s.2 10 (s.2 17 l4) = l2 → cm iv L h0 d 85 [vr 307, vi (s.2 17 l4), vi l2] s (qi fun r13 s12 => ((r13 ≠ s12.1 16 → (((ua s12 36 l4 0).2 36 l4 = 0 → (-2147483648 ≤ l3 + 0 ∧ l3 + 0 ≤ 2147483647) ∧ (-2147483648 ≤ l4 + 1 ∧ l4 + 1 ≤ 2147483647) ∧ wm iv L h0 (d + 1) 111 62 [lr 307, li l1, li l2, li (l3 + 0), li (l4 + 1)] [] (ua s12 36 l4 0) (qi F)) ∧ ((ua s12 36 l4 0).2 36 l4 ≠ 0 → (-2147483648 ≤ l3 + 1 ∧ l3 + 1 ≤ 2147483647) ∧ (-2147483648 ≤ l4 + 1 ∧ l4 + 1 ≤ 2147483647) ∧ wm iv L h0 (d + 1) 111 62 [lr 307, li l1, li l2, li (l3 + 1), li (l4 + 1)] [] (ua s12 36 l4 0) (qi F)))) ∧ (r13 = s12.1 16 → (((ua s12 36 l4 1).2 36 l4 = 0 → (-2147483648 ≤ l3 + 0 ∧ l3 + 0 ≤ 2147483647) ∧ (-2147483648 ≤ l4 + 1 ∧ l4 + 1 ≤ 2147483647) ∧ wm iv L h0 (d + 1) 111 62 [lr 307, li l1, li l2, li (l3 + 0), li (l4 + 1)] [] (ua s12 36 l4 1) (qi F)) ∧ ((ua s12 36 l4 1).2 36 l4 ≠ 0 → (-2147483648 ≤ l3 + 1 ∧ l3 + 1 ≤ 2147483647) ∧ (-2147483648 ≤ l4 + 1 ∧ l4 + 1 ≤ 2147483647) ∧ wm iv L h0 (d + 1) 111 62 [lr 307, li l1, li l2, li (l3 + 1), li (l4 + 1)] [] (ua s12 36 l4 1) (qi F))))))))))))) : wm iv L h0 (d + 1) 111 62 [lr 307, li l1, li l2, li l3, li l4] [] s (qi F) := by
  refine w_iload rfl rfl ?_
  refine w_aload_n rfl rfl ?_
  refine m_get rfl rfl ?_
  refine w_icmp_ge rfl (fun h => ?_) (fun h => ?_)
  · replace H := H.1 h
    refine w_aload_n rfl rfl ?_
    refine m_geta (t := 0) (k := 3004) rfl rfl ?_
    refine w_aload_n rfl rfl ?_
    refine m_get rfl rfl ?_
    refine w_iload_n rfl rfl ?_
    obtain ⟨g1, H⟩ := H
    refine m_ast rfl (f := 10) (k := 3004) rfl g1 ?_
    refine w_iconst (n := 0) rfl rfl ?_
    refine w_istore rfl rfl ?_
    refine w_iconst (n := 0) rfl rfl ?_
    refine w_istore rfl rfl ?_
    exact wp_ls (sl_s (sl_s (sl_s (sl_s (sl_s (sl_s (sl_0))))))) H
  · replace H := H.2 h
    refine w_aload_n rfl rfl ?_
    refine m_geta (t := 2) (k := 80) rfl rfl ?_
    refine w_iload rfl rfl ?_
    refine w_aload_n rfl rfl ?_
    refine m_geta (t := 0) (k := 3004) rfl rfl ?_
    refine w_aload_n rfl rfl ?_
    refine m_geta (t := 0) (k := 80) rfl rfl ?_
    refine w_iload rfl rfl ?_
    obtain ⟨g2, H⟩ := H
    refine m_ald rfl (f := 17) (k := 80) rfl g2 ?_
    obtain ⟨g3, H⟩ := H
    refine m_ald rfl (f := 9) (k := 3004) rfl g3 ?_
    refine w_iconst (n := 3) rfl rfl ?_
    refine w_icmp_ne rfl (fun h => ?_) (fun h => ?_)
    · replace H := H.1 h
      refine w_iconst (n := 0) rfl rfl ?_
      refine m_bast (t := 2) rfl (f := 36) (k := 80) rfl g2 (Or.inr ⟨rfl, by decide⟩) ?_
      refine w_iload_n rfl rfl ?_
      refine w_aload_n rfl rfl ?_
      refine m_geta (t := 2) (k := 80) rfl rfl ?_
      refine w_iload rfl rfl ?_
      refine m_bald (t := 2) rfl (f := 36) (k := 80) rfl g2 ?_
      refine w_if_eq rfl (fun h => ?_) (fun h => ?_)
      · replace H := H.1 h
        refine w_iconst (n := 0) rfl rfl ?_
        obtain ⟨g4, H⟩ := H
        refine w_iadd rfl g4 ?_
        refine w_istore_n rfl rfl ?_
        obtain ⟨g5, H⟩ := H
        refine w_iinc rfl rfl rfl g5 ?_
        refine w_goto rfl ?_
        exact wp_ls (sl_s (sl_s (sl_s (sl_s (sl_s (sl_0)))))) H
      · replace H := H.2 h
        refine w_iconst (n := 1) rfl rfl ?_
        refine w_goto rfl ?_
        obtain ⟨g6, H⟩ := H
        refine w_iadd rfl g6 ?_
        refine w_istore_n rfl rfl ?_
        obtain ⟨g7, H⟩ := H
        refine w_iinc rfl rfl rfl g7 ?_
        refine w_goto rfl ?_
        exact wp_ls (sl_s (sl_s (sl_s (sl_s (sl_s (sl_0)))))) H
    · replace H := H.2 h
      refine w_aload_n rfl rfl ?_
      refine m_geta (t := 0) (k := 3004) rfl rfl ?_
      refine w_aload_n rfl rfl ?_
      refine m_geta (t := 0) (k := 80) rfl rfl ?_
      refine w_iload rfl rfl ?_
      refine m_ald rfl (f := 17) (k := 80) rfl g2 ?_
      refine m_ald rfl (f := 10) (k := 3004) rfl g3 ?_
      refine w_iload_n rfl rfl ?_
      refine w_icmp_ne rfl (fun h => ?_) (fun h => ?_)
      · replace H := H.1 h
        refine w_iconst (n := 0) rfl rfl ?_
        refine m_bast (t := 2) rfl (f := 36) (k := 80) rfl g2 (Or.inr ⟨rfl, by decide⟩) ?_
        refine w_iload_n rfl rfl ?_
        refine w_aload_n rfl rfl ?_
        refine m_geta (t := 2) (k := 80) rfl rfl ?_
        refine w_iload rfl rfl ?_
        refine m_bald (t := 2) rfl (f := 36) (k := 80) rfl g2 ?_
        refine w_if_eq rfl (fun h => ?_) (fun h => ?_)
        · replace H := H.1 h
          refine w_iconst (n := 0) rfl rfl ?_
          obtain ⟨g8, H⟩ := H
          refine w_iadd rfl g8 ?_
          refine w_istore_n rfl rfl ?_
          obtain ⟨g9, H⟩ := H
          refine w_iinc rfl rfl rfl g9 ?_
          refine w_goto rfl ?_
          exact wp_ls (sl_s (sl_s (sl_s (sl_s (sl_s (sl_0)))))) H
        · replace H := H.2 h
          refine w_iconst (n := 1) rfl rfl ?_
          refine w_goto rfl ?_
          obtain ⟨g10, H⟩ := H
          refine w_iadd rfl g10 ?_
          refine w_istore_n rfl rfl ?_
          obtain ⟨g11, H⟩ := H
          refine w_iinc rfl rfl rfl g11 ?_
          refine w_goto rfl ?_
          exact wp_ls (sl_s (sl_s (sl_s (sl_s (sl_s (sl_0)))))) H
      · replace H := H.2 h
        refine w_aload_n rfl rfl ?_
        refine w_aload_n rfl rfl ?_
        refine m_geta (t := 0) (k := 80) rfl rfl ?_
        refine w_iload rfl rfl ?_
        refine m_ald rfl (f := 17) (k := 80) rfl g2 ?_
        refine w_iload_n rfl rfl ?_
        refine m_call (as := [vi (s.2 17 l4), vi l2]) (r := [vi l4, vr 332]) rfl rfl rfl rfl rfl rfl (wc_mono H (Nat.le_refl _) ?_)
        rintro _ s12 ⟨r13, rfl, H⟩
        show wm iv L h0 (d + 1) 111 121 [lr 307, li l1, li l2, li l3, li l4] [vi r13, vi l4, vr 332] s12 (qi F)
        refine w_aload_n rfl rfl ?_
        refine m_get rfl rfl ?_
        refine w_icmp_ne rfl (fun h => ?_) (fun h => ?_)
        · replace H := H.1 h
          refine w_iconst (n := 0) rfl rfl ?_
          refine m_bast (t := 2) rfl (f := 36) (k := 80) rfl g2 (Or.inr ⟨rfl, by decide⟩) ?_
          refine w_iload_n rfl rfl ?_
          refine w_aload_n rfl rfl ?_
          refine m_geta (t := 2) (k := 80) rfl rfl ?_
          refine w_iload rfl rfl ?_
          refine m_bald (t := 2) rfl (f := 36) (k := 80) rfl g2 ?_
          refine w_if_eq rfl (fun h => ?_) (fun h => ?_)
          · replace H := H.1 h
            refine w_iconst (n := 0) rfl rfl ?_
            obtain ⟨g14, H⟩ := H
            refine w_iadd rfl g14 ?_
            refine w_istore_n rfl rfl ?_
            obtain ⟨g15, H⟩ := H
            refine w_iinc rfl rfl rfl g15 ?_
            refine w_goto rfl ?_
            exact wp_ls (sl_s (sl_s (sl_s (sl_s (sl_s (sl_0)))))) H
          · replace H := H.2 h
            refine w_iconst (n := 1) rfl rfl ?_
            refine w_goto rfl ?_
            obtain ⟨g16, H⟩ := H
            refine w_iadd rfl g16 ?_
            refine w_istore_n rfl rfl ?_
            obtain ⟨g17, H⟩ := H
            refine w_iinc rfl rfl rfl g17 ?_
            refine w_goto rfl ?_
            exact wp_ls (sl_s (sl_s (sl_s (sl_s (sl_s (sl_0)))))) H
        · replace H := H.2 h
          refine w_iconst (n := 1) rfl rfl ?_
          refine w_goto rfl ?_
          refine m_bast (t := 2) rfl (f := 36) (k := 80) rfl g2 (Or.inr ⟨rfl, by decide⟩) ?_
          refine w_iload_n rfl rfl ?_
          refine w_aload_n rfl rfl ?_
          refine m_geta (t := 2) (k := 80) rfl rfl ?_
          refine w_iload rfl rfl ?_
          refine m_bald (t := 2) rfl (f := 36) (k := 80) rfl g2 ?_
          refine w_if_eq rfl (fun h => ?_) (fun h => ?_)
          · replace H := H.1 h
            refine w_iconst (n := 0) rfl rfl ?_
            obtain ⟨g18, H⟩ := H
            refine w_iadd rfl g18 ?_
            refine w_istore_n rfl rfl ?_
            obtain ⟨g19, H⟩ := H
            refine w_iinc rfl rfl rfl g19 ?_
            refine w_goto rfl ?_
            exact wp_ls (sl_s (sl_s (sl_s (sl_s (sl_s (sl_0)))))) H
          · replace H := H.2 h
            refine w_iconst (n := 1) rfl rfl ?_
            refine w_goto rfl ?_
            obtain ⟨g20, H⟩ := H
            refine w_iadd rfl g20 ?_
            refine w_istore_n rfl rfl ?_
            obtain ⟨g21, H⟩ := H
            refine w_iinc rfl rfl rfl g21 ?_
            refine w_goto rfl ?_
            exact wp_ls (sl_s (sl_s (sl_s (sl_s (sl_s (sl_0)))))) H

/-- HoleDeskModel.rename(I)I at 174 -/
theorem B111_174 {iv : List (Int × Int)} {L : Nat} {h0 : MH} {d : Nat} {s : SM} {l1 : Int} {l2 : Int} {l3 : Int} {l4 : Int} {l5 : Int} {F : Int → SM → Prop} (H : ((s.1 18 ≤ l5 → ((l4 = 0 → wm iv L h0 (d + 1) 111 317 [lr 307, li l1, ln, li l3, ln, li 0] [] s (qi F)) ∧ (l4 ≠ 0 → (0 ≤ s.1 16 ∧ s.1 16 < 3004) ∧ F (-6) (ua s 10 (s.1 16) l2)))) ∧ (l5 < s.1 18 → (0 ≤ l5 ∧ l5 < 80) ∧ (0 ≤ s.2 17 l5 ∧ s.2 17 l5 < 3004) ∧ ((s.2 9 (s.2 17 l5) ≠ 3 → ((l4 ≠ 0 → (-2147483648 ≤ l5 + 1 ∧ l5 + 1 ≤ 2147483647) ∧ wm iv L h0 (d + 1) 111 174 [lr 307, li l1, li l2, li l3, li 1, li (l5 + 1)] [] s (qi F)) ∧ (l4 = 0 → ((s.2 9 (s.2 17 l5) ≠ 3 → (-2147483648 ≤ l5 + 1 ∧ l5 + 1 ≤ 2147483647) ∧ wm iv L h0 (d + 1) 111 174 [lr 307, li l1, li l2, li l3, li 0, li (l5 + 1)] [] s (qi F)) ∧ (s.2 9 (s.2 17 l5) = 3 → ((0 = s.2 36 l5 → (-2147483648 ≤ l5 + 1 ∧ l5 + 1 ≤ 2147483647) ∧ wm iv L h0 (d + 1) 111 174 [lr 307, li l1, li l2, li l3, li 0, li (l5 + 1)] [] s (qi F)) ∧ (0 ≠ s.2 36 l5 → (-2147483648 ≤ l5 + 1 ∧ l5 + 1 ≤ 2147483647) ∧ wm iv L h0 (d + 1) 111 174 [lr 307, li l1, li l2, li l3, li 1, li (l5 + 1)] [] s (qi F)))))))) ∧ (s.2 9 (s.2 17 l5) = 3 → ((s.2 36 l5 = 0 → cm iv L h0 d 85 [vr 307, vi (s.2 17 l5), vi (s.2 10 (s.2 17 l5))] s (qi fun r9 s8 => ((r9 ≠ s8.1 16 → ((l4 ≠ 0 → (-2147483648 ≤ l5 + 1 ∧ l5 + 1 ≤ 2147483647) ∧ wm iv L h0 (d + 1) 111 174 [lr 307, li l1, li l2, li l3, li 1, li (l5 + 1)] [] s8 (qi F)) ∧ (l4 = 0 → (0 ≤ s8.2 17 l5 ∧ s8.2 17 l5 < 3004) ∧ ((s8.2 9 (s8.2 17 l5) ≠ 3 → (-2147483648 ≤ l5 + 1 ∧ l5 + 1 ≤ 2147483647) ∧ wm iv L h0 (d + 1) 111 174 [lr 307, li l1, li l2, li l3, li 0, li (l5 + 1)] [] s8 (qi F)) ∧ (s8.2 9 (s8.2 17 l5) = 3 → ((0 = s8.2 36 l5 → (-2147483648 ≤ l5 + 1 ∧ l5 + 1 ≤ 2147483647) ∧ wm iv L h0 (d + 1) 111 174 [lr 307, li l1, li l2, li l3, li 0, li (l5 + 1)] [] s8 (qi F)) ∧ (0 ≠ s8.2 36 l5 → (-2147483648 ≤ l5 + 1 ∧ l5 + 1 ≤ 2147483647) ∧ wm iv L h0 (d + 1) 111 174 [lr 307, li l1, li l2, li l3, li 1, li (l5 + 1)] [] s8 (qi F)))))))) ∧ (r9 = s8.1 16 → ((l4 ≠ 0 → (-2147483648 ≤ l5 + 1 ∧ l5 + 1 ≤ 2147483647) ∧ wm iv L h0 (d + 1) 111 174 [lr 307, li l1, li l2, li l3, li 1, li (l5 + 1)] [] s8 (qi F)) ∧ (l4 = 0 → (0 ≤ s8.2 17 l5 ∧ s8.2 17 l5 < 3004) ∧ ((s8.2 9 (s8.2 17 l5) ≠ 3 → (-2147483648 ≤ l5 + 1 ∧ l5 + 1 ≤ 2147483647) ∧ wm iv L h0 (d + 1) 111 174 [lr 307, li l1, li l2, li l3, li 0, li (l5 + 1)] [] s8 (qi F)) ∧ (s8.2 9 (s8.2 17 l5) = 3 → ((1 = s8.2 36 l5 → (-2147483648 ≤ l5 + 1 ∧ l5 + 1 ≤ 2147483647) ∧ wm iv L h0 (d + 1) 111 174 [lr 307, li l1, li l2, li l3, li 0, li (l5 + 1)] [] s8 (qi F)) ∧ (1 ≠ s8.2 36 l5 → (-2147483648 ≤ l5 + 1 ∧ l5 + 1 ≤ 2147483647) ∧ wm iv L h0 (d + 1) 111 174 [lr 307, li l1, li l2, li l3, li 1, li (l5 + 1)] [] s8 (qi F))))))))))) ∧ (s.2 36 l5 ≠ 0 → cm iv L h0 d 85 [vr 307, vi (s.2 17 l5), vi l1] s (qi fun r21 s20 => ((r21 ≠ s20.1 16 → ((l4 ≠ 0 → (-2147483648 ≤ l5 + 1 ∧ l5 + 1 ≤ 2147483647) ∧ wm iv L h0 (d + 1) 111 174 [lr 307, li l1, li l2, li l3, li 1, li (l5 + 1)] [] s20 (qi F)) ∧ (l4 = 0 → (0 ≤ s20.2 17 l5 ∧ s20.2 17 l5 < 3004) ∧ ((s20.2 9 (s20.2 17 l5) ≠ 3 → (-2147483648 ≤ l5 + 1 ∧ l5 + 1 ≤ 2147483647) ∧ wm iv L h0 (d + 1) 111 174 [lr 307, li l1, li l2, li l3, li 0, li (l5 + 1)] [] s20 (qi F)) ∧ (s20.2 9 (s20.2 17 l5) = 3 → ((0 = s20.2 36 l5 → (-2147483648 ≤ l5 + 1 ∧ l5 + 1 ≤ 2147483647) ∧ wm iv L h0 (d + 1) 111 174 [lr 307, li l1, li l2, li l3, li 0, li (l5 + 1)] [] s20 (qi F)) ∧ (0 ≠ s20.2 36 l5 → (-2147483648 ≤ l5 + 1 ∧ l5 + 1 ≤ 2147483647) ∧ wm iv L h0 (d + 1) 111 174 [lr 307, li l1, li l2, li l3, li 1, li (l5 + 1)] [] s20 (qi F)))))))) ∧ (r21 = s20.1 16 → ((l4 ≠ 0 → (-2147483648 ≤ l5 + 1 ∧ l5 + 1 ≤ 2147483647) ∧ wm iv L h0 (d + 1) 111 174 [lr 307, li l1, li l2, li l3, li 1, li (l5 + 1)] [] s20 (qi F)) ∧ (l4 = 0 → (0 ≤ s20.2 17 l5 ∧ s20.2 17 l5 < 3004) ∧ ((s20.2 9 (s20.2 17 l5) ≠ 3 → (-2147483648 ≤ l5 + 1 ∧ l5 + 1 ≤ 2147483647) ∧ wm iv L h0 (d + 1) 111 174 [lr 307, li l1, li l2, li l3, li 0, li (l5 + 1)] [] s20 (qi F)) ∧ (s20.2 9 (s20.2 17 l5) = 3 → ((1 = s20.2 36 l5 → (-2147483648 ≤ l5 + 1 ∧ l5 + 1 ≤ 2147483647) ∧ wm iv L h0 (d + 1) 111 174 [lr 307, li l1, li l2, li l3, li 0, li (l5 + 1)] [] s20 (qi F)) ∧ (1 ≠ s20.2 36 l5 → (-2147483648 ≤ l5 + 1 ∧ l5 + 1 ≤ 2147483647) ∧ wm iv L h0 (d + 1) 111 174 [lr 307, li l1, li l2, li l3, li 1, li (l5 + 1)] [] s20 (qi F))))))))))))))))) : wm iv L h0 (d + 1) 111 174 [lr 307, li l1, li l2, li l3, li l4, li l5] [] s (qi F) := by
  refine w_iload rfl rfl ?_
  refine w_aload_n rfl rfl ?_
  refine m_get rfl rfl ?_
  refine w_icmp_ge rfl (fun h => ?_) (fun h => ?_)
  · replace H := H.1 h
    refine w_iload rfl rfl ?_
    refine w_if_eq rfl (fun h => ?_) (fun h => ?_)
    · replace H := H.1 h
      refine w_iconst (n := 0) rfl rfl ?_
      refine w_istore rfl rfl ?_
      exact wp_ls (sl_s (sl_s (sl_n (sl_s (sl_n (sl_s (sl_0))))))) H
    · replace H := H.2 h
      refine w_aload_n rfl rfl ?_
      refine m_geta (t := 0) (k := 3004) rfl rfl ?_
      refine w_aload_n rfl rfl ?_
      refine m_get rfl rfl ?_
      refine w_iload_n rfl rfl ?_
      obtain ⟨g1, H⟩ := H
      refine m_ast rfl (f := 10) (k := 3004) rfl g1 ?_
      refine w_bipush (n := (-6)) rfl rfl rfl ?_
      exact w_iret rfl rfl ⟨_, rfl, H⟩
  · replace H := H.2 h
    refine w_aload_n rfl rfl ?_
    refine m_geta (t := 0) (k := 3004) rfl rfl ?_
    refine w_aload_n rfl rfl ?_
    refine m_geta (t := 0) (k := 80) rfl rfl ?_
    refine w_iload rfl rfl ?_
    obtain ⟨g2, H⟩ := H
    refine m_ald rfl (f := 17) (k := 80) rfl g2 ?_
    obtain ⟨g3, H⟩ := H
    refine m_ald rfl (f := 9) (k := 3004) rfl g3 ?_
    refine w_iconst (n := 3) rfl rfl ?_
    refine w_icmp_ne rfl (fun h => ?_) (fun h => ?_)
    · replace H := H.1 h
      refine w_iconst (n := 0) rfl rfl ?_
      refine w_istore rfl rfl ?_
      refine w_iload rfl rfl ?_
      refine w_if_ne rfl (fun h => ?_) (fun h => ?_)
      · replace H := H.1 h
        refine w_iconst (n := 1) rfl rfl ?_
        refine w_goto rfl ?_
        refine w_istore rfl rfl ?_
        obtain ⟨g4, H⟩ := H
        refine w_iinc rfl rfl rfl g4 ?_
        refine w_goto rfl ?_
        exact wp_ls (sl_s (sl_s (sl_s (sl_s (sl_s (sl_s (sl_0))))))) H
      · replace H := H.2 h
        refine w_aload_n rfl rfl ?_
        refine m_geta (t := 0) (k := 3004) rfl rfl ?_
        refine w_aload_n rfl rfl ?_
        refine m_geta (t := 0) (k := 80) rfl rfl ?_
        refine w_iload rfl rfl ?_
        refine m_ald rfl (f := 17) (k := 80) rfl g2 ?_
        refine m_ald rfl (f := 9) (k := 3004) rfl g3 ?_
        refine w_iconst (n := 3) rfl rfl ?_
        refine w_icmp_ne rfl (fun h => ?_) (fun h => ?_)
        · replace H := H.1 h
          refine w_iconst (n := 0) rfl rfl ?_
          refine w_istore rfl rfl ?_
          obtain ⟨g5, H⟩ := H
          refine w_iinc rfl rfl rfl g5 ?_
          refine w_goto rfl ?_
          exact wp_ls (sl_s (sl_s (sl_s (sl_s (sl_s (sl_s (sl_0))))))) H
        · replace H := H.2 h
          refine w_iload rfl rfl ?_
          refine w_aload_n rfl rfl ?_
          refine m_geta (t := 2) (k := 80) rfl rfl ?_
          refine w_iload rfl rfl ?_
          refine m_bald (t := 2) rfl (f := 36) (k := 80) rfl g2 ?_
          refine w_icmp_eq rfl (fun h => ?_) (fun h => ?_)
          · replace H := H.1 h
            refine w_iconst (n := 0) rfl rfl ?_
            refine w_istore rfl rfl ?_
            obtain ⟨g6, H⟩ := H
            refine w_iinc rfl rfl rfl g6 ?_
            refine w_goto rfl ?_
            exact wp_ls (sl_s (sl_s (sl_s (sl_s (sl_s (sl_s (sl_0))))))) H
          · replace H := H.2 h
            refine w_iconst (n := 1) rfl rfl ?_
            refine w_goto rfl ?_
            refine w_istore rfl rfl ?_
            obtain ⟨g7, H⟩ := H
            refine w_iinc rfl rfl rfl g7 ?_
            refine w_goto rfl ?_
            exact wp_ls (sl_s (sl_s (sl_s (sl_s (sl_s (sl_s (sl_0))))))) H
    · replace H := H.2 h
      refine w_aload_n rfl rfl ?_
      refine w_aload_n rfl rfl ?_
      refine m_geta (t := 0) (k := 80) rfl rfl ?_
      refine w_iload rfl rfl ?_
      refine m_ald rfl (f := 17) (k := 80) rfl g2 ?_
      refine w_aload_n rfl rfl ?_
      refine m_geta (t := 2) (k := 80) rfl rfl ?_
      refine w_iload rfl rfl ?_
      refine m_bald (t := 2) rfl (f := 36) (k := 80) rfl g2 ?_
      refine w_if_eq rfl (fun h => ?_) (fun h => ?_)
      · replace H := H.1 h
        refine w_aload_n rfl rfl ?_
        refine m_geta (t := 0) (k := 3004) rfl rfl ?_
        refine w_aload_n rfl rfl ?_
        refine m_geta (t := 0) (k := 80) rfl rfl ?_
        refine w_iload rfl rfl ?_
        refine m_ald rfl (f := 17) (k := 80) rfl g2 ?_
        refine m_ald rfl (f := 10) (k := 3004) rfl g3 ?_
        refine m_call (as := [vi (s.2 17 l5), vi (s.2 10 (s.2 17 l5))]) (r := []) rfl rfl rfl rfl rfl rfl (wc_mono H (Nat.le_refl _) ?_)
        rintro _ s8 ⟨r9, rfl, H⟩
        show wm iv L h0 (d + 1) 111 236 [lr 307, li l1, li l2, li l3, li l4, li l5] [vi r9] s8 (qi F)
        refine w_aload_n rfl rfl ?_
        refine m_get rfl rfl ?_
        refine w_icmp_ne rfl (fun h => ?_) (fun h => ?_)
        · replace H := H.1 h
          refine w_iconst (n := 0) rfl rfl ?_
          refine w_istore rfl rfl ?_
          refine w_iload rfl rfl ?_
          refine w_if_ne rfl (fun h => ?_) (fun h => ?_)
          · replace H := H.1 h
            refine w_iconst (n := 1) rfl rfl ?_
            refine w_goto rfl ?_
            refine w_istore rfl rfl ?_
            obtain ⟨g10, H⟩ := H
            refine w_iinc rfl rfl rfl g10 ?_
            refine w_goto rfl ?_
            exact wp_ls (sl_s (sl_s (sl_s (sl_s (sl_s (sl_s (sl_0))))))) H
          · replace H := H.2 h
            refine w_aload_n rfl rfl ?_
            refine m_geta (t := 0) (k := 3004) rfl rfl ?_
            refine w_aload_n rfl rfl ?_
            refine m_geta (t := 0) (k := 80) rfl rfl ?_
            refine w_iload rfl rfl ?_
            refine m_ald rfl (f := 17) (k := 80) rfl g2 ?_
            obtain ⟨g11, H⟩ := H
            refine m_ald rfl (f := 9) (k := 3004) rfl g11 ?_
            refine w_iconst (n := 3) rfl rfl ?_
            refine w_icmp_ne rfl (fun h => ?_) (fun h => ?_)
            · replace H := H.1 h
              refine w_iconst (n := 0) rfl rfl ?_
              refine w_istore rfl rfl ?_
              obtain ⟨g12, H⟩ := H
              refine w_iinc rfl rfl rfl g12 ?_
              refine w_goto rfl ?_
              exact wp_ls (sl_s (sl_s (sl_s (sl_s (sl_s (sl_s (sl_0))))))) H
            · replace H := H.2 h
              refine w_iload rfl rfl ?_
              refine w_aload_n rfl rfl ?_
              refine m_geta (t := 2) (k := 80) rfl rfl ?_
              refine w_iload rfl rfl ?_
              refine m_bald (t := 2) rfl (f := 36) (k := 80) rfl g2 ?_
              refine w_icmp_eq rfl (fun h => ?_) (fun h => ?_)
              · replace H := H.1 h
                refine w_iconst (n := 0) rfl rfl ?_
                refine w_istore rfl rfl ?_
                obtain ⟨g13, H⟩ := H
                refine w_iinc rfl rfl rfl g13 ?_
                refine w_goto rfl ?_
                exact wp_ls (sl_s (sl_s (sl_s (sl_s (sl_s (sl_s (sl_0))))))) H
              · replace H := H.2 h
                refine w_iconst (n := 1) rfl rfl ?_
                refine w_goto rfl ?_
                refine w_istore rfl rfl ?_
                obtain ⟨g14, H⟩ := H
                refine w_iinc rfl rfl rfl g14 ?_
                refine w_goto rfl ?_
                exact wp_ls (sl_s (sl_s (sl_s (sl_s (sl_s (sl_s (sl_0))))))) H
        · replace H := H.2 h
          refine w_iconst (n := 1) rfl rfl ?_
          refine w_goto rfl ?_
          refine w_istore rfl rfl ?_
          refine w_iload rfl rfl ?_
          refine w_if_ne rfl (fun h => ?_) (fun h => ?_)
          · replace H := H.1 h
            refine w_iconst (n := 1) rfl rfl ?_
            refine w_goto rfl ?_
            refine w_istore rfl rfl ?_
            obtain ⟨g15, H⟩ := H
            refine w_iinc rfl rfl rfl g15 ?_
            refine w_goto rfl ?_
            exact wp_ls (sl_s (sl_s (sl_s (sl_s (sl_s (sl_s (sl_0))))))) H
          · replace H := H.2 h
            refine w_aload_n rfl rfl ?_
            refine m_geta (t := 0) (k := 3004) rfl rfl ?_
            refine w_aload_n rfl rfl ?_
            refine m_geta (t := 0) (k := 80) rfl rfl ?_
            refine w_iload rfl rfl ?_
            refine m_ald rfl (f := 17) (k := 80) rfl g2 ?_
            obtain ⟨g16, H⟩ := H
            refine m_ald rfl (f := 9) (k := 3004) rfl g16 ?_
            refine w_iconst (n := 3) rfl rfl ?_
            refine w_icmp_ne rfl (fun h => ?_) (fun h => ?_)
            · replace H := H.1 h
              refine w_iconst (n := 0) rfl rfl ?_
              refine w_istore rfl rfl ?_
              obtain ⟨g17, H⟩ := H
              refine w_iinc rfl rfl rfl g17 ?_
              refine w_goto rfl ?_
              exact wp_ls (sl_s (sl_s (sl_s (sl_s (sl_s (sl_s (sl_0))))))) H
            · replace H := H.2 h
              refine w_iload rfl rfl ?_
              refine w_aload_n rfl rfl ?_
              refine m_geta (t := 2) (k := 80) rfl rfl ?_
              refine w_iload rfl rfl ?_
              refine m_bald (t := 2) rfl (f := 36) (k := 80) rfl g2 ?_
              refine w_icmp_eq rfl (fun h => ?_) (fun h => ?_)
              · replace H := H.1 h
                refine w_iconst (n := 0) rfl rfl ?_
                refine w_istore rfl rfl ?_
                obtain ⟨g18, H⟩ := H
                refine w_iinc rfl rfl rfl g18 ?_
                refine w_goto rfl ?_
                exact wp_ls (sl_s (sl_s (sl_s (sl_s (sl_s (sl_s (sl_0))))))) H
              · replace H := H.2 h
                refine w_iconst (n := 1) rfl rfl ?_
                refine w_goto rfl ?_
                refine w_istore rfl rfl ?_
                obtain ⟨g19, H⟩ := H
                refine w_iinc rfl rfl rfl g19 ?_
                refine w_goto rfl ?_
                exact wp_ls (sl_s (sl_s (sl_s (sl_s (sl_s (sl_s (sl_0))))))) H
      · replace H := H.2 h
        refine w_iload_n rfl rfl ?_
        refine w_goto rfl ?_
        refine m_call (as := [vi (s.2 17 l5), vi l1]) (r := []) rfl rfl rfl rfl rfl rfl (wc_mono H (Nat.le_refl _) ?_)
        rintro _ s20 ⟨r21, rfl, H⟩
        show wm iv L h0 (d + 1) 111 236 [lr 307, li l1, li l2, li l3, li l4, li l5] [vi r21] s20 (qi F)
        refine w_aload_n rfl rfl ?_
        refine m_get rfl rfl ?_
        refine w_icmp_ne rfl (fun h => ?_) (fun h => ?_)
        · replace H := H.1 h
          refine w_iconst (n := 0) rfl rfl ?_
          refine w_istore rfl rfl ?_
          refine w_iload rfl rfl ?_
          refine w_if_ne rfl (fun h => ?_) (fun h => ?_)
          · replace H := H.1 h
            refine w_iconst (n := 1) rfl rfl ?_
            refine w_goto rfl ?_
            refine w_istore rfl rfl ?_
            obtain ⟨g22, H⟩ := H
            refine w_iinc rfl rfl rfl g22 ?_
            refine w_goto rfl ?_
            exact wp_ls (sl_s (sl_s (sl_s (sl_s (sl_s (sl_s (sl_0))))))) H
          · replace H := H.2 h
            refine w_aload_n rfl rfl ?_
            refine m_geta (t := 0) (k := 3004) rfl rfl ?_
            refine w_aload_n rfl rfl ?_
            refine m_geta (t := 0) (k := 80) rfl rfl ?_
            refine w_iload rfl rfl ?_
            refine m_ald rfl (f := 17) (k := 80) rfl g2 ?_
            obtain ⟨g23, H⟩ := H
            refine m_ald rfl (f := 9) (k := 3004) rfl g23 ?_
            refine w_iconst (n := 3) rfl rfl ?_
            refine w_icmp_ne rfl (fun h => ?_) (fun h => ?_)
            · replace H := H.1 h
              refine w_iconst (n := 0) rfl rfl ?_
              refine w_istore rfl rfl ?_
              obtain ⟨g24, H⟩ := H
              refine w_iinc rfl rfl rfl g24 ?_
              refine w_goto rfl ?_
              exact wp_ls (sl_s (sl_s (sl_s (sl_s (sl_s (sl_s (sl_0))))))) H
            · replace H := H.2 h
              refine w_iload rfl rfl ?_
              refine w_aload_n rfl rfl ?_
              refine m_geta (t := 2) (k := 80) rfl rfl ?_
              refine w_iload rfl rfl ?_
              refine m_bald (t := 2) rfl (f := 36) (k := 80) rfl g2 ?_
              refine w_icmp_eq rfl (fun h => ?_) (fun h => ?_)
              · replace H := H.1 h
                refine w_iconst (n := 0) rfl rfl ?_
                refine w_istore rfl rfl ?_
                obtain ⟨g25, H⟩ := H
                refine w_iinc rfl rfl rfl g25 ?_
                refine w_goto rfl ?_
                exact wp_ls (sl_s (sl_s (sl_s (sl_s (sl_s (sl_s (sl_0))))))) H
              · replace H := H.2 h
                refine w_iconst (n := 1) rfl rfl ?_
                refine w_goto rfl ?_
                refine w_istore rfl rfl ?_
                obtain ⟨g26, H⟩ := H
                refine w_iinc rfl rfl rfl g26 ?_
                refine w_goto rfl ?_
                exact wp_ls (sl_s (sl_s (sl_s (sl_s (sl_s (sl_s (sl_0))))))) H
        · replace H := H.2 h
          refine w_iconst (n := 1) rfl rfl ?_
          refine w_goto rfl ?_
          refine w_istore rfl rfl ?_
          refine w_iload rfl rfl ?_
          refine w_if_ne rfl (fun h => ?_) (fun h => ?_)
          · replace H := H.1 h
            refine w_iconst (n := 1) rfl rfl ?_
            refine w_goto rfl ?_
            refine w_istore rfl rfl ?_
            obtain ⟨g27, H⟩ := H
            refine w_iinc rfl rfl rfl g27 ?_
            refine w_goto rfl ?_
            exact wp_ls (sl_s (sl_s (sl_s (sl_s (sl_s (sl_s (sl_0))))))) H
          · replace H := H.2 h
            refine w_aload_n rfl rfl ?_
            refine m_geta (t := 0) (k := 3004) rfl rfl ?_
            refine w_aload_n rfl rfl ?_
            refine m_geta (t := 0) (k := 80) rfl rfl ?_
            refine w_iload rfl rfl ?_
            refine m_ald rfl (f := 17) (k := 80) rfl g2 ?_
            obtain ⟨g28, H⟩ := H
            refine m_ald rfl (f := 9) (k := 3004) rfl g28 ?_
            refine w_iconst (n := 3) rfl rfl ?_
            refine w_icmp_ne rfl (fun h => ?_) (fun h => ?_)
            · replace H := H.1 h
              refine w_iconst (n := 0) rfl rfl ?_
              refine w_istore rfl rfl ?_
              obtain ⟨g29, H⟩ := H
              refine w_iinc rfl rfl rfl g29 ?_
              refine w_goto rfl ?_
              exact wp_ls (sl_s (sl_s (sl_s (sl_s (sl_s (sl_s (sl_0))))))) H
            · replace H := H.2 h
              refine w_iload rfl rfl ?_
              refine w_aload_n rfl rfl ?_
              refine m_geta (t := 2) (k := 80) rfl rfl ?_
              refine w_iload rfl rfl ?_
              refine m_bald (t := 2) rfl (f := 36) (k := 80) rfl g2 ?_
              refine w_icmp_eq rfl (fun h => ?_) (fun h => ?_)
              · replace H := H.1 h
                refine w_iconst (n := 0) rfl rfl ?_
                refine w_istore rfl rfl ?_
                obtain ⟨g30, H⟩ := H
                refine w_iinc rfl rfl rfl g30 ?_
                refine w_goto rfl ?_
                exact wp_ls (sl_s (sl_s (sl_s (sl_s (sl_s (sl_s (sl_0))))))) H
              · replace H := H.2 h
                refine w_iconst (n := 1) rfl rfl ?_
                refine w_goto rfl ?_
                refine w_istore rfl rfl ?_
                obtain ⟨g31, H⟩ := H
                refine w_iinc rfl rfl rfl g31 ?_
                refine w_goto rfl ?_
                exact wp_ls (sl_s (sl_s (sl_s (sl_s (sl_s (sl_s (sl_0))))))) H

/-- HoleDeskModel.rename(I)I at 317 -/
theorem B111_317 {iv : List (Int × Int)} {L : Nat} {h0 : MH} {d : Nat} {s : SM} {l1 : Int} {l3 : Int} {l5 : Int} {F : Int → SM → Prop} (H : ((s.1 18 ≤ l5 → cm iv L h0 d 100 [vr 307, vi 0] s (qv fun s1 => F l3 s1)) ∧ (l5 < s.1 18 → (0 ≤ l5 ∧ l5 < 80) ∧ ((s.2 36 l5 = 0 → (0 ≤ s.2 17 l5 ∧ s.2 17 l5 < 3004) ∧ (-2147483648 ≤ l5 + 1 ∧ l5 + 1 ≤ 2147483647) ∧ wm iv L h0 (d + 1) 111 317 [lr 307, li l1, ln, li l3, ln, li (l5 + 1)] [] (ua s 10 (s.2 17 l5) (s.2 10 (s.2 17 l5))) (qi F)) ∧ (s.2 36 l5 ≠ 0 → (0 ≤ s.2 17 l5 ∧ s.2 17 l5 < 3004) ∧ (-2147483648 ≤ l5 + 1 ∧ l5 + 1 ≤ 2147483647) ∧ wm iv L h0 (d + 1) 111 317 [lr 307, li l1, ln, li l3, ln, li (l5 + 1)] [] (ua s 10 (s.2 17 l5) l1) (qi F)))))) : wm iv L h0 (d + 1) 111 317 [lr 307, li l1, ln, li l3, ln, li l5] [] s (qi F) := by
  refine w_iload rfl rfl ?_
  refine w_aload_n rfl rfl ?_
  refine m_get rfl rfl ?_
  refine w_icmp_ge rfl (fun h => ?_) (fun h => ?_)
  · replace H := H.1 h
    refine w_aload_n rfl rfl ?_
    refine w_iconst (n := 0) rfl rfl ?_
    refine m_call (as := [vi 0]) (r := []) rfl rfl rfl rfl rfl rfl (wc_mono H (Nat.le_refl _) ?_)
    rintro _ s1 ⟨rfl, H⟩
    show wm iv L h0 (d + 1) 111 375 [lr 307, li l1, ln, li l3, ln, li l5] [] s1 (qi F)
    refine w_iload_n rfl rfl ?_
    exact w_iret rfl rfl ⟨_, rfl, H⟩
  · replace H := H.2 h
    refine w_aload_n rfl rfl ?_
    refine m_geta (t := 0) (k := 3004) rfl rfl ?_
    refine w_aload_n rfl rfl ?_
    refine m_geta (t := 0) (k := 80) rfl rfl ?_
    refine w_iload rfl rfl ?_
    obtain ⟨g2, H⟩ := H
    refine m_ald rfl (f := 17) (k := 80) rfl g2 ?_
    refine w_aload_n rfl rfl ?_
    refine m_geta (t := 2) (k := 80) rfl rfl ?_
    refine w_iload rfl rfl ?_
    refine m_bald (t := 2) rfl (f := 36) (k := 80) rfl g2 ?_
    refine w_if_eq rfl (fun h => ?_) (fun h => ?_)
    · replace H := H.1 h
      refine w_aload_n rfl rfl ?_
      refine m_geta (t := 0) (k := 3004) rfl rfl ?_
      refine w_aload_n rfl rfl ?_
      refine m_geta (t := 0) (k := 80) rfl rfl ?_
      refine w_iload rfl rfl ?_
      refine m_ald rfl (f := 17) (k := 80) rfl g2 ?_
      obtain ⟨g3, H⟩ := H
      refine m_ald rfl (f := 10) (k := 3004) rfl g3 ?_
      refine m_ast rfl (f := 10) (k := 3004) rfl g3 ?_
      obtain ⟨g4, H⟩ := H
      refine w_iinc rfl rfl rfl g4 ?_
      refine w_goto rfl ?_
      exact wp_ls (sl_s (sl_s (sl_n (sl_s (sl_n (sl_s (sl_0))))))) H
    · replace H := H.2 h
      refine w_iload_n rfl rfl ?_
      refine w_goto rfl ?_
      obtain ⟨g5, H⟩ := H
      refine m_ast rfl (f := 10) (k := 3004) rfl g5 ?_
      obtain ⟨g6, H⟩ := H
      refine w_iinc rfl rfl rfl g6 ?_
      refine w_goto rfl ?_
      exact wp_ls (sl_s (sl_s (sl_n (sl_s (sl_n (sl_s (sl_0))))))) H

/-- HoleDeskModel.move(I)I -/
theorem B112 {iv : List (Int × Int)} {L : Nat} {h0 : MH} {d : Nat} {s : SM} {a1 : Int} {F : Int → SM → Prop} (H : cm iv L h0 d 80 [vr 307, vi a1] s (qi fun r2 s1 => ((r2 ≠ 0 → (0 ≤ a1 ∧ a1 < 3004) ∧ ((s1.2 9 a1 ≠ 0 → F (-4) s1) ∧ (s1.2 9 a1 = 0 → ((a1 = s1.1 16 → F (-4) s1) ∧ (a1 ≠ s1.1 16 → cm iv L h0 d 84 [vr 307, vi a1, vi (s1.1 16)] s1 (qi fun r5 s4 => ((r5 = 0 → ((s4.1 8 ≠ 3000 → cm iv L h0 d 81 [vr 307, vi (s4.1 16)] s4 (qi fun r7 s6 => wm iv L h0 (d + 1) 112 66 [lr 307, li a1, li r7, li 0] [] s6 (qi F))) ∧ (s4.1 8 = 3000 → F (-2) s4))) ∧ (r5 ≠ 0 → F (-4) s4)))))))) ∧ (r2 = 0 → F (-1) s1)))) : cm iv L h0 (d + 1) 112 [vr 307, vi a1] s (qi F) := by
  show wm iv L h0 (d + 1) 112 0 [lr 307, li a1] [] s (qi F)
  refine w_aload_n rfl rfl ?_
  refine w_iload_n rfl rfl ?_
  refine m_call (as := [vi a1]) (r := []) rfl rfl rfl rfl rfl rfl (wc_mono H (Nat.le_refl _) ?_)
  rintro _ s1 ⟨r2, rfl, H⟩
  show wm iv L h0 (d + 1) 112 5 [lr 307, li a1] [vi r2] s1 (qi F)
  refine w_if_ne rfl (fun h => ?_) (fun h => ?_)
  · replace H := H.1 h
    refine w_aload_n rfl rfl ?_
    refine m_geta (t := 0) (k := 3004) rfl rfl ?_
    refine w_iload_n rfl rfl ?_
    obtain ⟨g3, H⟩ := H
    refine m_ald rfl (f := 9) (k := 3004) rfl g3 ?_
    refine w_if_ne rfl (fun h => ?_) (fun h => ?_)
    · replace H := H.1 h
      refine w_bipush (n := (-4)) rfl rfl rfl ?_
      exact w_iret rfl rfl ⟨_, rfl, H⟩
    · replace H := H.2 h
      refine w_iload_n rfl rfl ?_
      refine w_aload_n rfl rfl ?_
      refine m_get rfl rfl ?_
      refine w_icmp_eq rfl (fun h => ?_) (fun h => ?_)
      · replace H := H.1 h
        refine w_bipush (n := (-4)) rfl rfl rfl ?_
        exact w_iret rfl rfl ⟨_, rfl, H⟩
      · replace H := H.2 h
        refine w_aload_n rfl rfl ?_
        refine w_iload_n rfl rfl ?_
        refine w_aload_n rfl rfl ?_
        refine m_get rfl rfl ?_
        refine m_call (as := [vi a1, vi (s1.1 16)]) (r := []) rfl rfl rfl rfl rfl rfl (wc_mono H (Nat.le_refl _) ?_)
        rintro _ s4 ⟨r5, rfl, H⟩
        show wm iv L h0 (d + 1) 112 36 [lr 307, li a1] [vi r5] s4 (qi F)
        refine w_if_eq rfl (fun h => ?_) (fun h => ?_)
        · replace H := H.1 h
          refine w_aload_n rfl rfl ?_
          refine m_get rfl rfl ?_
          refine w_sipush (n := 3000) rfl rfl rfl ?_
          refine w_icmp_ne rfl (fun h => ?_) (fun h => ?_)
          · replace H := H.1 h
            refine w_aload_n rfl rfl ?_
            refine w_aload_n rfl rfl ?_
            refine m_get rfl rfl ?_
            refine m_call (as := [vi (s4.1 16)]) (r := []) rfl rfl rfl rfl rfl rfl (wc_mono H (Nat.le_refl _) ?_)
            rintro _ s6 ⟨r7, rfl, H⟩
            show wm iv L h0 (d + 1) 112 63 [lr 307, li a1] [vi r7] s6 (qi F)
            refine w_istore_n rfl rfl ?_
            refine w_iconst (n := 0) rfl rfl ?_
            refine w_istore_n rfl rfl ?_
            exact wp_ls (sl_s (sl_s (sl_s (sl_s (sl_0))))) H
          · replace H := H.2 h
            refine w_bipush (n := (-2)) rfl rfl rfl ?_
            exact w_iret rfl rfl ⟨_, rfl, H⟩
        · replace H := H.2 h
          refine w_bipush (n := (-4)) rfl rfl rfl ?_
          exact w_iret rfl rfl ⟨_, rfl, H⟩
  · replace H := H.2 h
    refine w_iconst (n := (-1)) rfl rfl ?_
    exact w_iret rfl rfl ⟨_, rfl, H⟩

/-- HoleDeskModel.move(I)I at 66 -/
theorem B112_66 {iv : List (Int × Int)} {L : Nat} {h0 : MH} {d : Nat} {s : SM} {l1 : Int} {l2 : Int} {l3 : Int} {F : Int → SM → Prop} (H : ((l2 ≤ l3 → cm iv L h0 d 99 [vr 307] s (qv fun s1 => cm iv L h0 d 74 [vr 307, vi 0, vi (-9), vi (-9)] s1 (qi fun r3 s2 => cm iv L h0 d 77 [vr 307, vi (s1.1 16), vi r3] s2 (qv fun s4 => cm iv L h0 d 77 [vr 307, vi l1, vi (s1.1 16)] s4 (qv fun s5 => cm iv L h0 d 100 [vr 307, vi 0] s5 (qv fun s6 => F r3 s6)))))) ∧ (l3 < l2 → (0 ≤ l3 ∧ l3 < 80) ∧ (0 ≤ s.2 17 l3 ∧ s.2 17 l3 < 3004) ∧ ((s.2 9 (s.2 17 l3) ≠ 3 → (-2147483648 ≤ l3 + 1 ∧ l3 + 1 ≤ 2147483647) ∧ wm iv L h0 (d + 1) 112 66 [lr 307, li l1, li l2, li (l3 + 1)] [] s (qi F)) ∧ (s.2 9 (s.2 17 l3) = 3 → cm iv L h0 d 85 [vr 307, vi (s.2 17 l3), vi (s.2 10 (s.2 17 l3))] s (qi fun r11 s10 => ((r11 = (-9) → (0 ≤ s10.2 17 l3 ∧ s10.2 17 l3 < 3004) ∧ cm iv L h0 d 85 [vr 307, vi l1, vi (s10.2 10 (s10.2 17 l3))] s10 (qi fun r14 s13 => ((r14 = r11 → (-2147483648 ≤ l3 + 1 ∧ l3 + 1 ≤ 2147483647) ∧ wm iv L h0 (d + 1) 112 66 [lr 307, li l1, li l2, li (l3 + 1)] [] s13 (qi F)) ∧ (r14 ≠ r11 → F (-6) s13)))) ∧ (r11 ≠ (-9) → cm iv L h0 d 84 [vr 307, vi r11, vi (s10.1 16)] s10 (qi fun r17 s16 => ((r17 ≠ 0 → (-2147483648 ≤ l3 + 1 ∧ l3 + 1 ≤ 2147483647) ∧ wm iv L h0 (d + 1) 112 66 [lr 307, li l1, li l2, li (l3 + 1)] [] s16 (qi F)) ∧ (r17 = 0 → (0 ≤ s16.2 17 l3 ∧ s16.2 17 l3 < 3004) ∧ cm iv L h0 d 85 [vr 307, vi l1, vi (s16.2 10 (s16.2 17 l3))] s16 (qi fun r21 s20 => ((r21 = r11 → (-2147483648 ≤ l3 + 1 ∧ l3 + 1 ≤ 2147483647) ∧ wm iv L h0 (d + 1) 112 66 [lr 307, li l1, li l2, li (l3 + 1)] [] s20 (qi F)) ∧ (r21 ≠ r11 → F (-6) s20)))))))))))))) : wm iv L h0 (d + 1) 112 66 [lr 307, li l1, li l2, li l3] [] s (qi F) := by
  refine w_iload_n rfl rfl ?_
  refine w_iload_n rfl rfl ?_
  refine w_icmp_ge rfl (fun h => ?_) (fun h => ?_)
  · replace H := H.1 h
    refine w_aload_n rfl rfl ?_
    refine m_call (as := []) (r := []) rfl rfl rfl rfl rfl rfl (wc_mono H (Nat.le_refl _) ?_)
    rintro _ s1 ⟨rfl, H⟩
    show wm iv L h0 (d + 1) 112 175 [lr 307, li l1, li l2, li l3] [] s1 (qi F)
    refine w_aload_n rfl rfl ?_
    refine m_get rfl rfl ?_
    refine w_istore_n rfl rfl ?_
    refine w_aload_n rfl rfl ?_
    refine w_iconst (n := 0) rfl rfl ?_
    refine w_bipush (n := (-9)) rfl rfl rfl ?_
    refine w_bipush (n := (-9)) rfl rfl rfl ?_
    refine m_call (as := [vi 0, vi (-9), vi (-9)]) (r := []) rfl rfl rfl rfl rfl rfl (wc_mono H (Nat.le_refl _) ?_)
    rintro _ s2 ⟨r3, rfl, H⟩
    show wm iv L h0 (d + 1) 112 189 [lr 307, li l1, li l2, li (s1.1 16)] [vi r3] s2 (qi F)
    refine w_istore rfl rfl ?_
    refine w_aload_n rfl rfl ?_
    refine w_iload_n rfl rfl ?_
    refine w_iload rfl rfl ?_
    refine m_call (as := [vi (s1.1 16), vi r3]) (r := []) rfl rfl rfl rfl rfl rfl (wc_mono H (Nat.le_refl _) ?_)
    rintro _ s4 ⟨rfl, H⟩
    show wm iv L h0 (d + 1) 112 198 [lr 307, li l1, li l2, li (s1.1 16), li r3] [] s4 (qi F)
    refine w_aload_n rfl rfl ?_
    refine w_iload_n rfl rfl ?_
    refine w_iload_n rfl rfl ?_
    refine m_call (as := [vi l1, vi (s1.1 16)]) (r := []) rfl rfl rfl rfl rfl rfl (wc_mono H (Nat.le_refl _) ?_)
    rintro _ s5 ⟨rfl, H⟩
    show wm iv L h0 (d + 1) 112 204 [lr 307, li l1, li l2, li (s1.1 16), li r3] [] s5 (qi F)
    refine w_aload_n rfl rfl ?_
    refine w_iconst (n := 0) rfl rfl ?_
    refine m_call (as := [vi 0]) (r := []) rfl rfl rfl rfl rfl rfl (wc_mono H (Nat.le_refl _) ?_)
    rintro _ s6 ⟨rfl, H⟩
    show wm iv L h0 (d + 1) 112 209 [lr 307, li l1, li l2, li (s1.1 16), li r3] [] s6 (qi F)
    refine w_iload rfl rfl ?_
    exact w_iret rfl rfl ⟨_, rfl, H⟩
  · replace H := H.2 h
    refine w_aload_n rfl rfl ?_
    refine m_geta (t := 0) (k := 3004) rfl rfl ?_
    refine w_aload_n rfl rfl ?_
    refine m_geta (t := 0) (k := 80) rfl rfl ?_
    refine w_iload_n rfl rfl ?_
    obtain ⟨g7, H⟩ := H
    refine m_ald rfl (f := 17) (k := 80) rfl g7 ?_
    obtain ⟨g8, H⟩ := H
    refine m_ald rfl (f := 9) (k := 3004) rfl g8 ?_
    refine w_iconst (n := 3) rfl rfl ?_
    refine w_icmp_ne rfl (fun h => ?_) (fun h => ?_)
    · replace H := H.1 h
      obtain ⟨g9, H⟩ := H
      refine w_iinc rfl rfl rfl g9 ?_
      refine w_goto rfl ?_
      exact wp_ls (sl_s (sl_s (sl_s (sl_s (sl_0))))) H
    · replace H := H.2 h
      refine w_aload_n rfl rfl ?_
      refine w_aload_n rfl rfl ?_
      refine m_geta (t := 0) (k := 80) rfl rfl ?_
      refine w_iload_n rfl rfl ?_
      refine m_ald rfl (f := 17) (k := 80) rfl g7 ?_
      refine w_aload_n rfl rfl ?_
      refine m_geta (t := 0) (k := 3004) rfl rfl ?_
      refine w_aload_n rfl rfl ?_
      refine m_geta (t := 0) (k := 80) rfl rfl ?_
      refine w_iload_n rfl rfl ?_
      refine m_ald rfl (f := 17) (k := 80) rfl g7 ?_
      refine m_ald rfl (f := 10) (k := 3004) rfl g8 ?_
      refine m_call (as := [vi (s.2 17 l3), vi (s.2 10 (s.2 17 l3))]) (r := []) rfl rfl rfl rfl rfl rfl (wc_mono H (Nat.le_refl _) ?_)
      rintro _ s10 ⟨r11, rfl, H⟩
      show wm iv L h0 (d + 1) 112 107 [lr 307, li l1, li l2, li l3] [vi r11] s10 (qi F)
      refine w_istore rfl rfl ?_
      refine w_iload rfl rfl ?_
      refine w_bipush (n := (-9)) rfl rfl rfl ?_
      refine w_icmp_eq rfl (fun h => ?_) (fun h => ?_)
      · replace H := H.1 h
        refine w_iconst (n := 1) rfl rfl ?_
        refine w_goto rfl ?_
        refine w_istore rfl rfl ?_
        refine w_iload rfl rfl ?_
        refine w_if_eq rfl (fun h => absurd h (by decide)) (fun _ => ?_)
        refine w_aload_n rfl rfl ?_
        refine w_iload_n rfl rfl ?_
        refine w_aload_n rfl rfl ?_
        refine m_geta (t := 0) (k := 3004) rfl rfl ?_
        refine w_aload_n rfl rfl ?_
        refine m_geta (t := 0) (k := 80) rfl rfl ?_
        refine w_iload_n rfl rfl ?_
        refine m_ald rfl (f := 17) (k := 80) rfl g7 ?_
        obtain ⟨g12, H⟩ := H
        refine m_ald rfl (f := 10) (k := 3004) rfl g12 ?_
        refine m_call (as := [vi l1, vi (s10.2 10 (s10.2 17 l3))]) (r := []) rfl rfl rfl rfl rfl rfl (wc_mono H (Nat.le_refl _) ?_)
        rintro _ s13 ⟨r14, rfl, H⟩
        show wm iv L h0 (d + 1) 112 157 [lr 307, li l1, li l2, li l3, li r11, li 1] [vi r14] s13 (qi F)
        refine w_iload rfl rfl ?_
        refine w_icmp_eq rfl (fun h => ?_) (fun h => ?_)
        · replace H := H.1 h
          obtain ⟨g15, H⟩ := H
          refine w_iinc rfl rfl rfl g15 ?_
          refine w_goto rfl ?_
          exact wp_ls (sl_s (sl_s (sl_s (sl_s (sl_0))))) H
        · replace H := H.2 h
          refine w_bipush (n := (-6)) rfl rfl rfl ?_
          exact w_iret rfl rfl ⟨_, rfl, H⟩
      · replace H := H.2 h
        refine w_aload_n rfl rfl ?_
        refine w_iload rfl rfl ?_
        refine w_aload_n rfl rfl ?_
        refine m_get rfl rfl ?_
        refine m_call (as := [vi r11, vi (s10.1 16)]) (r := []) rfl rfl rfl rfl rfl rfl (wc_mono H (Nat.le_refl _) ?_)
        rintro _ s16 ⟨r17, rfl, H⟩
        show wm iv L h0 (d + 1) 112 126 [lr 307, li l1, li l2, li l3, li r11] [vi r17] s16 (qi F)
        refine w_if_ne rfl (fun h => ?_) (fun h => ?_)
        · replace H := H.1 h
          refine w_iconst (n := 0) rfl rfl ?_
          refine w_istore rfl rfl ?_
          refine w_iload rfl rfl ?_
          refine w_if_eq rfl (fun _ => ?_) (fun h => absurd h (by decide))
          obtain ⟨g18, H⟩ := H
          refine w_iinc rfl rfl rfl g18 ?_
          refine w_goto rfl ?_
          exact wp_ls (sl_s (sl_s (sl_s (sl_s (sl_0))))) H
        · replace H := H.2 h
          refine w_iconst (n := 1) rfl rfl ?_
          refine w_goto rfl ?_
          refine w_istore rfl rfl ?_
          refine w_iload rfl rfl ?_
          refine w_if_eq rfl (fun h => absurd h (by decide)) (fun _ => ?_)
          refine w_aload_n rfl rfl ?_
          refine w_iload_n rfl rfl ?_
          refine w_aload_n rfl rfl ?_
          refine m_geta (t := 0) (k := 3004) rfl rfl ?_
          refine w_aload_n rfl rfl ?_
          refine m_geta (t := 0) (k := 80) rfl rfl ?_
          refine w_iload_n rfl rfl ?_
          refine m_ald rfl (f := 17) (k := 80) rfl g7 ?_
          obtain ⟨g19, H⟩ := H
          refine m_ald rfl (f := 10) (k := 3004) rfl g19 ?_
          refine m_call (as := [vi l1, vi (s16.2 10 (s16.2 17 l3))]) (r := []) rfl rfl rfl rfl rfl rfl (wc_mono H (Nat.le_refl _) ?_)
          rintro _ s20 ⟨r21, rfl, H⟩
          show wm iv L h0 (d + 1) 112 157 [lr 307, li l1, li l2, li l3, li r11, li 1] [vi r21] s20 (qi F)
          refine w_iload rfl rfl ?_
          refine w_icmp_eq rfl (fun h => ?_) (fun h => ?_)
          · replace H := H.1 h
            obtain ⟨g22, H⟩ := H
            refine w_iinc rfl rfl rfl g22 ?_
            refine w_goto rfl ?_
            exact wp_ls (sl_s (sl_s (sl_s (sl_s (sl_0))))) H
          · replace H := H.2 h
            refine w_bipush (n := (-6)) rfl rfl rfl ?_
            exact w_iret rfl rfl ⟨_, rfl, H⟩

/-- HoleDeskModel.shelve(I)I -/
theorem B113 {iv : List (Int × Int)} {L : Nat} {h0 : MH} {d : Nat} {s : SM} {a1 : Int} {F : Int → SM → Prop} (H : ((0 ≤ a1 ∧ a1 ≤ 5 → cm iv L h0 d 81 [vr 307, vi (s.1 16)] s (qi fun r2 s1 => (0 ≤ a1 ∧ a1 < 6) ∧ wm iv L h0 (d + 1) 113 29 [lr 307, li a1, li r2, li 0] [] (ua s1 37 a1 r2) (qi F))) ∧ (a1 < 0 ∨ 5 < a1 → F (-1) s))) : cm iv L h0 (d + 1) 113 [vr 307, vi a1] s (qi F) := by
  show wm iv L h0 (d + 1) 113 0 [lr 307, li a1] [] s (qi F)
  refine w_iload_n rfl rfl ?_
  refine w_iconst (n := 0) rfl rfl ?_
  refine w_iconst (n := 5) rfl rfl ?_
  refine w_static (as := [vi a1, vi 0, vi 5]) (r := []) rfl rfl rfl rfl rfl (m_in (fun h => ?_) (fun h => ?_))
  · show wm iv L h0 (d + 1) 113 6 [lr 307, li a1] [vi 1] s (qi F)
    replace H := H.1 h
    refine w_if_ne rfl (fun _ => ?_) (fun h => absurd h (by decide))
    refine w_aload_n rfl rfl ?_
    refine w_aload_n rfl rfl ?_
    refine m_get rfl rfl ?_
    refine m_call (as := [vi (s.1 16)]) (r := []) rfl rfl rfl rfl rfl rfl (wc_mono H (Nat.le_refl _) ?_)
    rintro _ s1 ⟨r2, rfl, H⟩
    show wm iv L h0 (d + 1) 113 19 [lr 307, li a1] [vi r2] s1 (qi F)
    refine w_istore_n rfl rfl ?_
    refine w_aload_n rfl rfl ?_
    refine m_geta (t := 0) (k := 6) rfl rfl ?_
    refine w_iload_n rfl rfl ?_
    refine w_iload_n rfl rfl ?_
    obtain ⟨g3, H⟩ := H
    refine m_ast rfl (f := 37) (k := 6) rfl g3 ?_
    refine w_iconst (n := 0) rfl rfl ?_
    refine w_istore_n rfl rfl ?_
    exact wp_ls (sl_s (sl_s (sl_s (sl_s (sl_0))))) H
  · show wm iv L h0 (d + 1) 113 6 [lr 307, li a1] [vi 0] s (qi F)
    replace H := H.2 h
    refine w_if_ne rfl (fun h => absurd h (by decide)) (fun _ => ?_)
    refine w_iconst (n := (-1)) rfl rfl ?_
    exact w_iret rfl rfl ⟨_, rfl, H⟩

/-- HoleDeskModel.shelve(I)I at 29 -/
theorem B113_29 {iv : List (Int × Int)} {L : Nat} {h0 : MH} {d : Nat} {s : SM} {l1 : Int} {l2 : Int} {l3 : Int} {F : Int → SM → Prop} (H : ((l2 ≤ l3 → F l2 s) ∧ (l3 < l2 → (-2147483648 ≤ 60 * l1 ∧ 60 * l1 ≤ 2147483647) ∧ (-2147483648 ≤ (60 * l1) + l3 ∧ (60 * l1) + l3 ≤ 2147483647) ∧ (0 ≤ l3 ∧ l3 < 80) ∧ (0 ≤ s.2 17 l3 ∧ s.2 17 l3 < 3004) ∧ (0 ≤ (60 * l1) + l3 ∧ (60 * l1) + l3 < 360) ∧ (-2147483648 ≤ l3 + 1 ∧ l3 + 1 ≤ 2147483647) ∧ wm iv L h0 (d + 1) 113 29 [lr 307, li l1, li l2, li (l3 + 1)] [] (ua (ua (ua s 38 ((60 * l1) + l3) (s.2 9 (s.2 17 l3))) 39 ((60 * l1) + l3) (s.2 10 (s.2 17 l3))) 40 ((60 * l1) + l3) (s.2 11 (s.2 17 l3))) (qi F)))) : wm iv L h0 (d + 1) 113 29 [lr 307, li l1, li l2, li l3] [] s (qi F) := by
  refine w_iload_n rfl rfl ?_
  refine w_iload_n rfl rfl ?_
  refine w_icmp_ge rfl (fun h => ?_) (fun h => ?_)
  · replace H := H.1 h
    refine w_iload_n rfl rfl ?_
    exact w_iret rfl rfl ⟨_, rfl, H⟩
  · replace H := H.2 h
    refine w_aload_n rfl rfl ?_
    refine m_geta (t := 0) (k := 360) rfl rfl ?_
    refine w_bipush (n := 60) rfl rfl rfl ?_
    refine w_iload_n rfl rfl ?_
    obtain ⟨g1, H⟩ := H
    refine w_imul rfl g1 ?_
    refine w_iload_n rfl rfl ?_
    obtain ⟨g2, H⟩ := H
    refine w_iadd rfl g2 ?_
    refine w_aload_n rfl rfl ?_
    refine m_geta (t := 0) (k := 3004) rfl rfl ?_
    refine w_aload_n rfl rfl ?_
    refine m_geta (t := 0) (k := 80) rfl rfl ?_
    refine w_iload_n rfl rfl ?_
    obtain ⟨g3, H⟩ := H
    refine m_ald rfl (f := 17) (k := 80) rfl g3 ?_
    obtain ⟨g4, H⟩ := H
    refine m_ald rfl (f := 9) (k := 3004) rfl g4 ?_
    obtain ⟨g5, H⟩ := H
    refine m_ast rfl (f := 38) (k := 360) rfl g5 ?_
    refine w_aload_n rfl rfl ?_
    refine m_geta (t := 0) (k := 360) rfl rfl ?_
    refine w_bipush (n := 60) rfl rfl rfl ?_
    refine w_iload_n rfl rfl ?_
    refine w_imul rfl g1 ?_
    refine w_iload_n rfl rfl ?_
    refine w_iadd rfl g2 ?_
    refine w_aload_n rfl rfl ?_
    refine m_geta (t := 0) (k := 3004) rfl rfl ?_
    refine w_aload_n rfl rfl ?_
    refine m_geta (t := 0) (k := 80) rfl rfl ?_
    refine w_iload_n rfl rfl ?_
    refine m_ald rfl (f := 17) (k := 80) rfl g3 ?_
    show wm iv L h0 (d + 1) 113 76 [lr 307, li l1, li l2, li l3] [vi (s.2 17 l3), vr 314, vi ((60 * l1) + l3), vr 335] (ua s 38 ((60 * l1) + l3) (s.2 9 (s.2 17 l3))) (qi F)
    refine m_ald rfl (f := 10) (k := 3004) rfl g4 ?_
    show wm iv L h0 (d + 1) 113 77 [lr 307, li l1, li l2, li l3] [vi (s.2 10 (s.2 17 l3)), vi ((60 * l1) + l3), vr 335] (ua s 38 ((60 * l1) + l3) (s.2 9 (s.2 17 l3))) (qi F)
    refine m_ast rfl (f := 39) (k := 360) rfl g5 ?_
    refine w_aload_n rfl rfl ?_
    refine m_geta (t := 0) (k := 360) rfl rfl ?_
    refine w_bipush (n := 60) rfl rfl rfl ?_
    refine w_iload_n rfl rfl ?_
    refine w_imul rfl g1 ?_
    refine w_iload_n rfl rfl ?_
    refine w_iadd rfl g2 ?_
    refine w_aload_n rfl rfl ?_
    refine m_geta (t := 0) (k := 3004) rfl rfl ?_
    refine w_aload_n rfl rfl ?_
    refine m_geta (t := 0) (k := 80) rfl rfl ?_
    refine w_iload_n rfl rfl ?_
    refine m_ald rfl (f := 17) (k := 80) rfl g3 ?_
    show wm iv L h0 (d + 1) 113 98 [lr 307, li l1, li l2, li l3] [vi (s.2 17 l3), vr 315, vi ((60 * l1) + l3), vr 336] (ua (ua s 38 ((60 * l1) + l3) (s.2 9 (s.2 17 l3))) 39 ((60 * l1) + l3) (s.2 10 (s.2 17 l3))) (qi F)
    refine m_ald rfl (f := 11) (k := 3004) rfl g4 ?_
    show wm iv L h0 (d + 1) 113 99 [lr 307, li l1, li l2, li l3] [vi (s.2 11 (s.2 17 l3)), vi ((60 * l1) + l3), vr 336] (ua (ua s 38 ((60 * l1) + l3) (s.2 9 (s.2 17 l3))) 39 ((60 * l1) + l3) (s.2 10 (s.2 17 l3))) (qi F)
    refine m_ast rfl (f := 40) (k := 360) rfl g5 ?_
    obtain ⟨g6, H⟩ := H
    refine w_iinc rfl rfl rfl g6 ?_
    refine w_goto rfl ?_
    exact wp_ls (sl_s (sl_s (sl_s (sl_s (sl_0))))) H

/-- HoleDeskModel.bornFrom(I)I -/
theorem B114 {iv : List (Int × Int)} {L : Nat} {h0 : MH} {d : Nat} {s : SM} {a1 : Int} {F : Int → SM → Prop} (H : (-2147483648 ≤ 60 * a1 ∧ 60 * a1 ≤ 2147483647) ∧ (-2147483648 ≤ (60 * a1) + (s.1 41) ∧ (60 * a1) + (s.1 41) ≤ 2147483647) ∧ (-2147483648 ≤ (s.1 41) + 1 ∧ (s.1 41) + 1 ≤ 2147483647) ∧ (0 ≤ (60 * a1) + (s.1 41) ∧ (60 * a1) + (s.1 41) < 360) ∧ cm iv L h0 d 74 [vr 307, vi (s.2 38 ((60 * a1) + (s.1 41))), vi (s.2 39 ((60 * a1) + (s.1 41))), vi (s.2 40 ((60 * a1) + (s.1 41)))] (us s 41 ((s.1 41) + 1)) (qi fun r6 s5 => wm iv L h0 (d + 1) 114 46 [lr 307, li a1, ln, li r6, li 0] [] s5 (qi F))) : cm iv L h0 (d + 1) 114 [vr 307, vi a1] s (qi F) := by
  show wm iv L h0 (d + 1) 114 0 [lr 307, li a1] [] s (qi F)
  refine w_bipush (n := 60) rfl rfl rfl ?_
  refine w_iload_n rfl rfl ?_
  obtain ⟨g1, H⟩ := H
  refine w_imul rfl g1 ?_
  refine w_aload_n rfl rfl ?_
  refine m_get rfl rfl ?_
  obtain ⟨g2, H⟩ := H
  refine w_iadd rfl g2 ?_
  refine w_istore_n rfl rfl ?_
  refine w_aload_n rfl rfl ?_
  refine w_dup rfl rfl ?_
  refine m_get rfl rfl ?_
  refine w_iconst (n := 1) rfl rfl ?_
  obtain ⟨g3, H⟩ := H
  refine w_iadd rfl g3 ?_
  refine m_put rfl rfl rfl ?_
  refine w_aload_n rfl rfl ?_
  refine w_aload_n rfl rfl ?_
  refine m_geta (t := 0) (k := 360) rfl rfl ?_
  refine w_iload_n rfl rfl ?_
  obtain ⟨g4, H⟩ := H
  refine m_ald rfl (f := 38) (k := 360) rfl g4 ?_
  show wm iv L h0 (d + 1) 114 27 [lr 307, li a1, li ((60 * a1) + (s.1 41))] [vi (s.2 38 ((60 * a1) + (s.1 41))), vr 307] (us s 41 ((s.1 41) + 1)) (qi F)
  refine w_aload_n rfl rfl ?_
  refine m_geta (t := 0) (k := 360) rfl rfl ?_
  refine w_iload_n rfl rfl ?_
  refine m_ald rfl (f := 39) (k := 360) rfl g4 ?_
  show wm iv L h0 (d + 1) 114 33 [lr 307, li a1, li ((60 * a1) + (s.1 41))] [vi (s.2 39 ((60 * a1) + (s.1 41))), vi (s.2 38 ((60 * a1) + (s.1 41))), vr 307] (us s 41 ((s.1 41) + 1)) (qi F)
  refine w_aload_n rfl rfl ?_
  refine m_geta (t := 0) (k := 360) rfl rfl ?_
  refine w_iload_n rfl rfl ?_
  refine m_ald rfl (f := 40) (k := 360) rfl g4 ?_
  show wm iv L h0 (d + 1) 114 39 [lr 307, li a1, li ((60 * a1) + (s.1 41))] [vi (s.2 40 ((60 * a1) + (s.1 41))), vi (s.2 39 ((60 * a1) + (s.1 41))), vi (s.2 38 ((60 * a1) + (s.1 41))), vr 307] (us s 41 ((s.1 41) + 1)) (qi F)
  refine m_call (as := [vi (s.2 38 ((60 * a1) + (s.1 41))), vi (s.2 39 ((60 * a1) + (s.1 41))), vi (s.2 40 ((60 * a1) + (s.1 41)))]) (r := []) rfl rfl rfl rfl rfl rfl (wc_mono H (Nat.le_refl _) ?_)
  rintro _ s5 ⟨r6, rfl, H⟩
  show wm iv L h0 (d + 1) 114 42 [lr 307, li a1, li ((60 * a1) + (s.1 41))] [vi r6] s5 (qi F)
  refine w_istore_n rfl rfl ?_
  refine w_iconst (n := 0) rfl rfl ?_
  refine w_istore rfl rfl ?_
  exact wp_ls (sl_s (sl_s (sl_n (sl_s (sl_s (sl_0)))))) H

/-- HoleDeskModel.bornFrom(I)I at 46 -/
theorem B114_46 {iv : List (Int × Int)} {L : Nat} {h0 : MH} {d : Nat} {s : SM} {l1 : Int} {l3 : Int} {l4 : Int} {F : Int → SM → Prop} (H : (0 ≤ l3 ∧ l3 < 3004) ∧ (0 ≤ s.2 9 l3 ∧ s.2 9 l3 < 16) ∧ ((pO (s.2 9 l3) ≤ l4 → F l3 s) ∧ (l4 < pO (s.2 9 l3) → cm iv L h0 d 114 [vr 307, vi l1] s (qi fun r4 s3 => cm iv L h0 d 76 [vr 307, vi l3, vi l4, vi r4] s3 (qv fun s5 => (-2147483648 ≤ l4 + 1 ∧ l4 + 1 ≤ 2147483647) ∧ wm iv L h0 (d + 1) 114 46 [lr 307, li l1, ln, li l3, li (l4 + 1)] [] s5 (qi F)))))) : wm iv L h0 (d + 1) 114 46 [lr 307, li l1, ln, li l3, li l4] [] s (qi F) := by
  refine w_iload rfl rfl ?_
  refine w_aload_n rfl rfl ?_
  refine m_geta (t := 0) (k := 3004) rfl rfl ?_
  refine w_iload_n rfl rfl ?_
  obtain ⟨g1, H⟩ := H
  refine m_ald rfl (f := 9) (k := 3004) rfl g1 ?_
  obtain ⟨g2, H⟩ := H
  refine w_static (as := [vi (s.2 9 l3)]) (r := [vi l4]) rfl rfl rfl rfl rfl (m_parts g2 ?_)
  show wm iv L h0 (d + 1) 114 57 [lr 307, li l1, ln, li l3, li l4] [vi (pO (s.2 9 l3)), vi l4] s (qi F)
  refine w_icmp_ge rfl (fun h => ?_) (fun h => ?_)
  · replace H := H.1 h
    refine w_iload_n rfl rfl ?_
    exact w_iret rfl rfl ⟨_, rfl, H⟩
  · replace H := H.2 h
    refine w_aload_n rfl rfl ?_
    refine w_iload_n rfl rfl ?_
    refine w_iload rfl rfl ?_
    refine w_aload_n rfl rfl ?_
    refine w_iload_n rfl rfl ?_
    refine m_call (as := [vi l1]) (r := [vi l4, vi l3, vr 307]) rfl rfl rfl rfl rfl rfl (wc_mono H (Nat.le_refl _) ?_)
    rintro _ s3 ⟨r4, rfl, H⟩
    show wm iv L h0 (d + 1) 114 69 [lr 307, li l1, ln, li l3, li l4] [vi r4, vi l4, vi l3, vr 307] s3 (qi F)
    refine m_call (as := [vi l3, vi l4, vi r4]) (r := []) rfl rfl rfl rfl rfl rfl (wc_mono H (Nat.le_refl _) ?_)
    rintro _ s5 ⟨rfl, H⟩
    show wm iv L h0 (d + 1) 114 72 [lr 307, li l1, ln, li l3, li l4] [] s5 (qi F)
    obtain ⟨g6, H⟩ := H
    refine w_iinc rfl rfl rfl g6 ?_
    refine w_goto rfl ?_
    exact wp_ls (sl_s (sl_s (sl_n (sl_s (sl_s (sl_0)))))) H

/-- HoleDeskModel.fill(I)I -/
theorem B115 {iv : List (Int × Int)} {L : Nat} {h0 : MH} {d : Nat} {s : SM} {a1 : Int} {F : Int → SM → Prop} (H : ((0 ≤ a1 ∧ a1 ≤ 5 → (0 ≤ s.1 16 ∧ s.1 16 < 3004) ∧ ((s.2 9 (s.1 16) = 0 → (0 ≤ a1 ∧ a1 < 6) ∧ ((s.2 37 a1 ≠ 0 → cm iv L h0 d 82 [vr 307] s (qi fun r4 s3 => (-2147483648 ≤ r4 - 1 ∧ r4 - 1 ≤ 2147483647) ∧ (-2147483648 ≤ (r4 - 1) + (s3.2 37 a1) ∧ (r4 - 1) + (s3.2 37 a1) ≤ 2147483647) ∧ ((60 < (r4 - 1) + (s3.2 37 a1) → F (-2) s3) ∧ ((r4 - 1) + (s3.2 37 a1) ≤ 60 → (-2147483648 ≤ (s3.1 8) + (s3.2 37 a1) ∧ (s3.1 8) + (s3.2 37 a1) ≤ 2147483647) ∧ (((s3.1 8) + (s3.2 37 a1) ≤ 3000 → cm iv L h0 d 99 [vr 307] s3 (qv fun s8 => cm iv L h0 d 114 [vr 307, vi a1] (us s8 41 0) (qi fun r10 s9 => cm iv L h0 d 77 [vr 307, vi (s8.1 16), vi r10] s9 (qv fun s11 => (-2147483648 ≤ r10 + 1 ∧ r10 + 1 ≤ 2147483647) ∧ (0 ≤ s8.1 16 ∧ s8.1 16 < 3004) ∧ cm iv L h0 d 100 [vr 307, vi 1] (us (ua s11 42 (s8.1 16) (r10 + 1)) 16 r10) (qv fun s14 => F r10 s14))))) ∧ (3000 < (s3.1 8) + (s3.2 37 a1) → F (-2) s3)))))) ∧ (s.2 37 a1 = 0 → cm iv L h0 d 61 [vr 307, vi 1] s (qi fun r16 s15 => F r16 s15)))) ∧ (s.2 9 (s.1 16) ≠ 0 → F (-4) s))) ∧ (a1 < 0 ∨ 5 < a1 → F (-1) s))) : cm iv L h0 (d + 1) 115 [vr 307, vi a1] s (qi F) := by
  show wm iv L h0 (d + 1) 115 0 [lr 307, li a1] [] s (qi F)
  refine w_iload_n rfl rfl ?_
  refine w_iconst (n := 0) rfl rfl ?_
  refine w_iconst (n := 5) rfl rfl ?_
  refine w_static (as := [vi a1, vi 0, vi 5]) (r := []) rfl rfl rfl rfl rfl (m_in (fun h => ?_) (fun h => ?_))
  · show wm iv L h0 (d + 1) 115 6 [lr 307, li a1] [vi 1] s (qi F)
    replace H := H.1 h
    refine w_if_ne rfl (fun _ => ?_) (fun h => absurd h (by decide))
    refine w_aload_n rfl rfl ?_
    refine m_geta (t := 0) (k := 3004) rfl rfl ?_
    refine w_aload_n rfl rfl ?_
    refine m_get rfl rfl ?_
    obtain ⟨g1, H⟩ := H
    refine m_ald rfl (f := 9) (k := 3004) rfl g1 ?_
    refine w_if_eq rfl (fun h => ?_) (fun h => ?_)
    · replace H := H.1 h
      refine w_aload_n rfl rfl ?_
      refine m_geta (t := 0) (k := 6) rfl rfl ?_
      refine w_iload_n rfl rfl ?_
      obtain ⟨g2, H⟩ := H
      refine m_ald rfl (f := 37) (k := 6) rfl g2 ?_
      refine w_if_ne rfl (fun h => ?_) (fun h => ?_)
      · replace H := H.1 h
        refine w_aload_n rfl rfl ?_
        refine m_call (as := []) (r := []) rfl rfl rfl rfl rfl rfl (wc_mono H (Nat.le_refl _) ?_)
        rintro _ s3 ⟨r4, rfl, H⟩
        show wm iv L h0 (d + 1) 115 45 [lr 307, li a1] [vi r4] s3 (qi F)
        refine w_iconst (n := 1) rfl rfl ?_
        obtain ⟨g5, H⟩ := H
        refine w_isub rfl g5 ?_
        refine w_aload_n rfl rfl ?_
        refine m_geta (t := 0) (k := 6) rfl rfl ?_
        refine w_iload_n rfl rfl ?_
        refine m_ald rfl (f := 37) (k := 6) rfl g2 ?_
        obtain ⟨g6, H⟩ := H
        refine w_iadd rfl g6 ?_
        refine w_bipush (n := 60) rfl rfl rfl ?_
        refine w_icmp_gt rfl (fun h => ?_) (fun h => ?_)
        · replace H := H.1 h
          refine w_bipush (n := (-2)) rfl rfl rfl ?_
          exact w_iret rfl rfl ⟨_, rfl, H⟩
        · replace H := H.2 h
          refine w_aload_n rfl rfl ?_
          refine m_get rfl rfl ?_
          refine w_aload_n rfl rfl ?_
          refine m_geta (t := 0) (k := 6) rfl rfl ?_
          refine w_iload_n rfl rfl ?_
          refine m_ald rfl (f := 37) (k := 6) rfl g2 ?_
          obtain ⟨g7, H⟩ := H
          refine w_iadd rfl g7 ?_
          refine w_sipush (n := 3000) rfl rfl rfl ?_
          refine w_icmp_le rfl (fun h => ?_) (fun h => ?_)
          · replace H := H.1 h
            refine w_aload_n rfl rfl ?_
            refine m_call (as := []) (r := []) rfl rfl rfl rfl rfl rfl (wc_mono H (Nat.le_refl _) ?_)
            rintro _ s8 ⟨rfl, H⟩
            show wm iv L h0 (d + 1) 115 83 [lr 307, li a1] [] s8 (qi F)
            refine w_aload_n rfl rfl ?_
            refine w_iconst (n := 0) rfl rfl ?_
            refine m_put rfl rfl rfl ?_
            refine w_aload_n rfl rfl ?_
            refine m_get rfl rfl ?_
            show wm iv L h0 (d + 1) 115 92 [lr 307, li a1] [vi (s8.1 16)] (us s8 41 0) (qi F)
            refine w_istore_n rfl rfl ?_
            refine w_aload_n rfl rfl ?_
            refine w_iload_n rfl rfl ?_
            refine m_call (as := [vi a1]) (r := []) rfl rfl rfl rfl rfl rfl (wc_mono H (Nat.le_refl _) ?_)
            rintro _ s9 ⟨r10, rfl, H⟩
            show wm iv L h0 (d + 1) 115 98 [lr 307, li a1, li (s8.1 16)] [vi r10] s9 (qi F)
            refine w_istore_n rfl rfl ?_
            refine w_aload_n rfl rfl ?_
            refine w_iload_n rfl rfl ?_
            refine w_iload_n rfl rfl ?_
            refine m_call (as := [vi (s8.1 16), vi r10]) (r := []) rfl rfl rfl rfl rfl rfl (wc_mono H (Nat.le_refl _) ?_)
            rintro _ s11 ⟨rfl, H⟩
            show wm iv L h0 (d + 1) 115 105 [lr 307, li a1, li (s8.1 16), li r10] [] s11 (qi F)
            refine w_aload_n rfl rfl ?_
            refine m_geta (t := 0) (k := 3004) rfl rfl ?_
            refine w_iload_n rfl rfl ?_
            refine w_iload_n rfl rfl ?_
            refine w_iconst (n := 1) rfl rfl ?_
            obtain ⟨g12, H⟩ := H
            refine w_iadd rfl g12 ?_
            obtain ⟨g13, H⟩ := H
            refine m_ast rfl (f := 42) (k := 3004) rfl g13 ?_
            refine w_aload_n rfl rfl ?_
            refine w_iload_n rfl rfl ?_
            refine m_put rfl rfl rfl ?_
            refine w_aload_n rfl rfl ?_
            refine w_iconst (n := 1) rfl rfl ?_
            refine m_call (as := [vi 1]) (r := []) rfl rfl rfl rfl rfl rfl (wc_mono H (Nat.le_refl _) ?_)
            rintro _ s14 ⟨rfl, H⟩
            show wm iv L h0 (d + 1) 115 124 [lr 307, li a1, li (s8.1 16), li r10] [] s14 (qi F)
            refine w_iload_n rfl rfl ?_
            exact w_iret rfl rfl ⟨_, rfl, H⟩
          · replace H := H.2 h
            refine w_bipush (n := (-2)) rfl rfl rfl ?_
            exact w_iret rfl rfl ⟨_, rfl, H⟩
      · replace H := H.2 h
        refine w_aload_n rfl rfl ?_
        refine w_iconst (n := 1) rfl rfl ?_
        refine m_call (as := [vi 1]) (r := []) rfl rfl rfl rfl rfl rfl (wc_mono H (Nat.le_refl _) ?_)
        rintro _ s15 ⟨r16, rfl, H⟩
        show wm iv L h0 (d + 1) 115 40 [lr 307, li a1] [vi r16] s15 (qi F)
        exact w_iret rfl rfl ⟨_, rfl, H⟩
    · replace H := H.2 h
      refine w_bipush (n := (-4)) rfl rfl rfl ?_
      exact w_iret rfl rfl ⟨_, rfl, H⟩
  · show wm iv L h0 (d + 1) 115 6 [lr 307, li a1] [vi 0] s (qi F)
    replace H := H.2 h
    refine w_if_ne rfl (fun h => absurd h (by decide)) (fun _ => ?_)
    refine w_iconst (n := (-1)) rfl rfl ?_
    exact w_iret rfl rfl ⟨_, rfl, H⟩

/-- HoleDeskModel.isOffered(II)Z -/
theorem B116 {iv : List (Int × Int)} {L : Nat} {h0 : MH} {d : Nat} {s : SM} {a1 : Int} {a2 : Int} {F : Int → SM → Prop} (H : cm iv L h0 d 75 [vr 307, vi 3000, vi a1, vi a2, vi 0] s (qv fun s1 => cm iv L h0 d 77 [vr 307, vi (s.1 16), vi 3000] s1 (qv fun s2 => wm iv L h0 (d + 1) 116 26 [lr 307, li a1, ln, li (s.1 16), li 0] [] s2 (qi F)))) : cm iv L h0 (d + 1) 116 [vr 307, vi a1, vi a2] s (qi F) := by
  show wm iv L h0 (d + 1) 116 0 [lr 307, li a1, li a2] [] s (qi F)
  refine w_aload_n rfl rfl ?_
  refine m_get rfl rfl ?_
  refine w_istore_n rfl rfl ?_
  refine w_aload_n rfl rfl ?_
  refine w_sipush (n := 3000) rfl rfl rfl ?_
  refine w_iload_n rfl rfl ?_
  refine w_iload_n rfl rfl ?_
  refine w_iconst (n := 0) rfl rfl ?_
  refine m_call (as := [vi 3000, vi a1, vi a2, vi 0]) (r := []) rfl rfl rfl rfl rfl rfl (wc_mono H (Nat.le_refl _) ?_)
  rintro _ s1 ⟨rfl, H⟩
  show wm iv L h0 (d + 1) 116 15 [lr 307, li a1, li a2, li (s.1 16)] [] s1 (qi F)
  refine w_aload_n rfl rfl ?_
  refine w_iload_n rfl rfl ?_
  refine w_sipush (n := 3000) rfl rfl rfl ?_
  refine m_call (as := [vi (s.1 16), vi 3000]) (r := []) rfl rfl rfl rfl rfl rfl (wc_mono H (Nat.le_refl _) ?_)
  rintro _ s2 ⟨rfl, H⟩
  show wm iv L h0 (d + 1) 116 23 [lr 307, li a1, li a2, li (s.1 16)] [] s2 (qi F)
  refine w_iconst (n := 0) rfl rfl ?_
  refine w_istore rfl rfl ?_
  exact wp_ls (sl_s (sl_s (sl_n (sl_s (sl_s (sl_0)))))) H

/-- HoleDeskModel.isOffered(II)Z at 26 -/
theorem B116_26 {iv : List (Int × Int)} {L : Nat} {h0 : MH} {d : Nat} {s : SM} {l1 : Int} {l3 : Int} {l4 : Int} {F : Int → SM → Prop} (H : (0 ≤ l1 ∧ l1 < 16) ∧ ((pO l1 ≤ l4 → cm iv L h0 d 86 [vr 307] s (qv fun s2 => ((s2.2 21 3000 ≠ 0 → cm iv L h0 d 77 [vr 307, vi 3000, vi l3] s2 (qv fun s3 => F 0 s3)) ∧ (s2.2 21 3000 = 0 → cm iv L h0 d 77 [vr 307, vi 3000, vi l3] s2 (qv fun s4 => F 1 s4))))) ∧ (l4 < pO l1 → (-2147483648 ≤ 3001 + l4 ∧ 3001 + l4 ≤ 2147483647) ∧ cm iv L h0 d 75 [vr 307, vi (3001 + l4), vi 0, vi (-9), vi (-9)] s (qv fun s6 => cm iv L h0 d 76 [vr 307, vi 3000, vi l4, vi (3001 + l4)] s6 (qv fun s7 => (-2147483648 ≤ l4 + 1 ∧ l4 + 1 ≤ 2147483647) ∧ wm iv L h0 (d + 1) 116 26 [lr 307, li l1, ln, li l3, li (l4 + 1)] [] s7 (qi F)))))) : wm iv L h0 (d + 1) 116 26 [lr 307, li l1, ln, li l3, li l4] [] s (qi F) := by
  refine w_iload rfl rfl ?_
  refine w_iload_n rfl rfl ?_
  obtain ⟨g1, H⟩ := H
  refine w_static (as := [vi l1]) (r := [vi l4]) rfl rfl rfl rfl rfl (m_parts g1 ?_)
  show wm iv L h0 (d + 1) 116 32 [lr 307, li l1, ln, li l3, li l4] [vi (pO l1), vi l4] s (qi F)
  refine w_icmp_ge rfl (fun h => ?_) (fun h => ?_)
  · replace H := H.1 h
    refine w_aload_n rfl rfl ?_
    refine m_call (as := []) (r := []) rfl rfl rfl rfl rfl rfl (wc_mono H (Nat.le_refl _) ?_)
    rintro _ s2 ⟨rfl, H⟩
    show wm iv L h0 (d + 1) 116 75 [lr 307, li l1, ln, li l3, li l4] [] s2 (qi F)
    refine w_aload_n rfl rfl ?_
    refine m_geta (t := 0) (k := 3004) rfl rfl ?_
    refine w_sipush (n := 3000) rfl rfl rfl ?_
    refine m_ald rfl (f := 21) (k := 3004) rfl ⟨by decide, by decide⟩ ?_
    refine w_if_ne rfl (fun h => ?_) (fun h => ?_)
    · replace H := H.1 h
      refine w_iconst (n := 0) rfl rfl ?_
      refine w_istore rfl rfl ?_
      refine w_aload_n rfl rfl ?_
      refine w_sipush (n := 3000) rfl rfl rfl ?_
      refine w_iload_n rfl rfl ?_
      refine m_call (as := [vi 3000, vi l3]) (r := []) rfl rfl rfl rfl rfl rfl (wc_mono H (Nat.le_refl _) ?_)
      rintro _ s3 ⟨rfl, H⟩
      show wm iv L h0 (d + 1) 116 101 [lr 307, li l1, ln, li l3, li 0] [] s3 (qi F)
      refine w_iload rfl rfl ?_
      exact w_iretz rfl rfl (by decide) ⟨_, rfl, H⟩
    · replace H := H.2 h
      refine w_iconst (n := 1) rfl rfl ?_
      refine w_goto rfl ?_
      refine w_istore rfl rfl ?_
      refine w_aload_n rfl rfl ?_
      refine w_sipush (n := 3000) rfl rfl rfl ?_
      refine w_iload_n rfl rfl ?_
      refine m_call (as := [vi 3000, vi l3]) (r := []) rfl rfl rfl rfl rfl rfl (wc_mono H (Nat.le_refl _) ?_)
      rintro _ s4 ⟨rfl, H⟩
      show wm iv L h0 (d + 1) 116 101 [lr 307, li l1, ln, li l3, li 1] [] s4 (qi F)
      refine w_iload rfl rfl ?_
      exact w_iretz rfl rfl (by decide) ⟨_, rfl, H⟩
  · replace H := H.2 h
    refine w_aload_n rfl rfl ?_
    refine w_sipush (n := 3001) rfl rfl rfl ?_
    refine w_iload rfl rfl ?_
    obtain ⟨g5, H⟩ := H
    refine w_iadd rfl g5 ?_
    refine w_iconst (n := 0) rfl rfl ?_
    refine w_bipush (n := (-9)) rfl rfl rfl ?_
    refine w_bipush (n := (-9)) rfl rfl rfl ?_
    refine m_call (as := [vi (3001 + l4), vi 0, vi (-9), vi (-9)]) (r := []) rfl rfl rfl rfl rfl rfl (wc_mono H (Nat.le_refl _) ?_)
    rintro _ s6 ⟨rfl, H⟩
    show wm iv L h0 (d + 1) 116 50 [lr 307, li l1, ln, li l3, li l4] [] s6 (qi F)
    refine w_aload_n rfl rfl ?_
    refine w_sipush (n := 3000) rfl rfl rfl ?_
    refine w_iload rfl rfl ?_
    refine w_sipush (n := 3001) rfl rfl rfl ?_
    refine w_iload rfl rfl ?_
    refine w_iadd rfl g5 ?_
    refine m_call (as := [vi 3000, vi l4, vi (3001 + l4)]) (r := []) rfl rfl rfl rfl rfl rfl (wc_mono H (Nat.le_refl _) ?_)
    rintro _ s7 ⟨rfl, H⟩
    show wm iv L h0 (d + 1) 116 65 [lr 307, li l1, ln, li l3, li l4] [] s7 (qi F)
    obtain ⟨g8, H⟩ := H
    refine w_iinc rfl rfl rfl g8 ?_
    refine w_goto rfl ?_
    exact wp_ls (sl_s (sl_s (sl_n (sl_s (sl_s (sl_0)))))) H

/-- HoleDeskModel.offer(IIZ)V -/
theorem B117 {iv : List (Int × Int)} {L : Nat} {h0 : MH} {d : Nat} {s : SM} {a1 : Int} {a2 : Int} {a3 : Int} {F : SM → Prop} (H : cm iv L h0 d 116 [vr 307, vi a1, vi a2] s (qi fun r2 s1 => ((r2 = 0 → F s1) ∧ (r2 ≠ 0 → (0 ≤ s1.1 45 ∧ s1.1 45 < 64) ∧ ((a3 = 0 → (-2147483648 ≤ (s1.1 45) + 1 ∧ (s1.1 45) + 1 ≤ 2147483647) ∧ F (us (ua (ua s1 43 (s1.1 45) a1) 44 (s1.1 45) (-9)) 45 ((s1.1 45) + 1))) ∧ (a3 ≠ 0 → (-2147483648 ≤ (s1.1 45) + 1 ∧ (s1.1 45) + 1 ≤ 2147483647) ∧ F (us (ua (ua s1 43 (s1.1 45) a1) 44 (s1.1 45) a2) 45 ((s1.1 45) + 1)))))))) : cm iv L h0 (d + 1) 117 [vr 307, vi a1, vi a2, vi a3] s (qv F) := by
  show wm iv L h0 (d + 1) 117 0 [lr 307, li a1, li a2, li a3] [] s (qv F)
  refine w_aload_n rfl rfl ?_
  refine w_iload_n rfl rfl ?_
  refine w_iload_n rfl rfl ?_
  refine m_call (as := [vi a1, vi a2]) (r := []) rfl rfl rfl rfl rfl rfl (wc_mono H (Nat.le_refl _) ?_)
  rintro _ s1 ⟨r2, rfl, H⟩
  show wm iv L h0 (d + 1) 117 6 [lr 307, li a1, li a2, li a3] [vi r2] s1 (qv F)
  refine w_if_eq rfl (fun h => ?_) (fun h => ?_)
  · replace H := H.1 h
    exact w_ret rfl rfl ⟨rfl, H⟩
  · replace H := H.2 h
    refine w_aload_n rfl rfl ?_
    refine m_geta (t := 0) (k := 64) rfl rfl ?_
    refine w_aload_n rfl rfl ?_
    refine m_get rfl rfl ?_
    refine w_iload_n rfl rfl ?_
    obtain ⟨g3, H⟩ := H
    refine m_ast rfl (f := 43) (k := 64) rfl g3 ?_
    refine w_aload_n rfl rfl ?_
    refine m_geta (t := 0) (k := 64) rfl rfl ?_
    refine w_aload_n rfl rfl ?_
    refine m_get rfl rfl ?_
    show wm iv L h0 (d + 1) 117 27 [lr 307, li a1, li a2, li a3] [vi (s1.1 45), vr 339] (ua s1 43 (s1.1 45) a1) (qv F)
    refine w_iload_n rfl rfl ?_
    refine w_if_eq rfl (fun h => ?_) (fun h => ?_)
    · replace H := H.1 h
      refine w_bipush (n := (-9)) rfl rfl rfl ?_
      refine m_ast rfl (f := 44) (k := 64) rfl g3 ?_
      refine w_aload_n rfl rfl ?_
      refine w_dup rfl rfl ?_
      refine m_get rfl rfl ?_
      show wm iv L h0 (d + 1) 117 43 [lr 307, li a1, li a2, li a3] [vi (s1.1 45), vr 307] (ua (ua s1 43 (s1.1 45) a1) 44 (s1.1 45) (-9)) (qv F)
      refine w_iconst (n := 1) rfl rfl ?_
      obtain ⟨g4, H⟩ := H
      refine w_iadd rfl g4 ?_
      refine m_put rfl rfl rfl ?_
      exact w_ret rfl rfl ⟨rfl, H⟩
    · replace H := H.2 h
      refine w_iload_n rfl rfl ?_
      refine w_goto rfl ?_
      refine m_ast rfl (f := 44) (k := 64) rfl g3 ?_
      refine w_aload_n rfl rfl ?_
      refine w_dup rfl rfl ?_
      refine m_get rfl rfl ?_
      show wm iv L h0 (d + 1) 117 43 [lr 307, li a1, li a2, li a3] [vi (s1.1 45), vr 307] (ua (ua s1 43 (s1.1 45) a1) 44 (s1.1 45) a2) (qv F)
      refine w_iconst (n := 1) rfl rfl ?_
      obtain ⟨g5, H⟩ := H
      refine w_iadd rfl g5 ?_
      refine m_put rfl rfl rfl ?_
      exact w_ret rfl rfl ⟨rfl, H⟩

/-- HoleDeskModel.findOffers()V -/
theorem B118 {iv : List (Int × Int)} {L : Nat} {h0 : MH} {d : Nat} {s : SM} {F : SM → Prop} (H : wm iv L h0 (d + 1) 118 7 [lr 307, li 0] [] (us s 45 0) (qv F)) : cm iv L h0 (d + 1) 118 [vr 307] s (qv F) := by
  show wm iv L h0 (d + 1) 118 0 [lr 307] [] s (qv F)
  refine w_aload_n rfl rfl ?_
  refine w_iconst (n := 0) rfl rfl ?_
  refine m_put rfl rfl rfl ?_
  refine w_iconst (n := 0) rfl rfl ?_
  refine w_istore_n rfl rfl ?_
  exact wp_ls (sl_s (sl_s (sl_0))) H

/-- HoleDeskModel.findOffers()V at 7 -/
theorem B118_7 {iv : List (Int × Int)} {L : Nat} {h0 : MH} {d : Nat} {s : SM} {l1 : Int} {F : SM → Prop} (H : ((26 ≤ l1 → cm iv L h0 d 117 [vr 307, vi 1, vi 0, vi 0] s (qv fun s1 => cm iv L h0 d 117 [vr 307, vi 2, vi 0, vi 0] s1 (qv fun s2 => wm iv L h0 (d + 1) 118 56 [lr 307, li 4] [] s2 (qv F)))) ∧ (l1 < 26 → cm iv L h0 d 85 [vr 307, vi (s.1 16), vi l1] s (qi fun r4 s3 => ((r4 = (-9) → (-2147483648 ≤ l1 + 1 ∧ l1 + 1 ≤ 2147483647) ∧ wm iv L h0 (d + 1) 118 7 [lr 307, li (l1 + 1)] [] s3 (qv F)) ∧ (r4 ≠ (-9) → cm iv L h0 d 117 [vr 307, vi 3, vi l1, vi 1] s3 (qv fun s6 => (-2147483648 ≤ l1 + 1 ∧ l1 + 1 ≤ 2147483647) ∧ wm iv L h0 (d + 1) 118 7 [lr 307, li (l1 + 1)] [] s6 (qv F)))))))) : wm iv L h0 (d + 1) 118 7 [lr 307, li l1] [] s (qv F) := by
  refine w_iload_n rfl rfl ?_
  refine w_bipush (n := 26) rfl rfl rfl ?_
  refine w_icmp_ge rfl (fun h => ?_) (fun h => ?_)
  · replace H := H.1 h
    refine w_aload_n rfl rfl ?_
    refine w_iconst (n := 1) rfl rfl ?_
    refine w_iconst (n := 0) rfl rfl ?_
    refine w_iconst (n := 0) rfl rfl ?_
    refine m_call (as := [vi 1, vi 0, vi 0]) (r := []) rfl rfl rfl rfl rfl rfl (wc_mono H (Nat.le_refl _) ?_)
    rintro _ s1 ⟨rfl, H⟩
    show wm iv L h0 (d + 1) 118 47 [lr 307, li l1] [] s1 (qv F)
    refine w_aload_n rfl rfl ?_
    refine w_iconst (n := 2) rfl rfl ?_
    refine w_iconst (n := 0) rfl rfl ?_
    refine w_iconst (n := 0) rfl rfl ?_
    refine m_call (as := [vi 2, vi 0, vi 0]) (r := []) rfl rfl rfl rfl rfl rfl (wc_mono H (Nat.le_refl _) ?_)
    rintro _ s2 ⟨rfl, H⟩
    show wm iv L h0 (d + 1) 118 54 [lr 307, li l1] [] s2 (qv F)
    refine w_iconst (n := 4) rfl rfl ?_
    refine w_istore_n rfl rfl ?_
    exact wp_ls (sl_s (sl_s (sl_0))) H
  · replace H := H.2 h
    refine w_aload_n rfl rfl ?_
    refine w_aload_n rfl rfl ?_
    refine m_get rfl rfl ?_
    refine w_iload_n rfl rfl ?_
    refine m_call (as := [vi (s.1 16), vi l1]) (r := []) rfl rfl rfl rfl rfl rfl (wc_mono H (Nat.le_refl _) ?_)
    rintro _ s3 ⟨r4, rfl, H⟩
    show wm iv L h0 (d + 1) 118 22 [lr 307, li l1] [vi r4] s3 (qv F)
    refine w_bipush (n := (-9)) rfl rfl rfl ?_
    refine w_icmp_eq rfl (fun h => ?_) (fun h => ?_)
    · replace H := H.1 h
      obtain ⟨g5, H⟩ := H
      refine w_iinc rfl rfl rfl g5 ?_
      refine w_goto rfl ?_
      exact wp_ls (sl_s (sl_s (sl_0))) H
    · replace H := H.2 h
      refine w_aload_n rfl rfl ?_
      refine w_iconst (n := 3) rfl rfl ?_
      refine w_iload_n rfl rfl ?_
      refine w_iconst (n := 1) rfl rfl ?_
      refine m_call (as := [vi 3, vi l1, vi 1]) (r := []) rfl rfl rfl rfl rfl rfl (wc_mono H (Nat.le_refl _) ?_)
      rintro _ s6 ⟨rfl, H⟩
      show wm iv L h0 (d + 1) 118 34 [lr 307, li l1] [] s6 (qv F)
      obtain ⟨g7, H⟩ := H
      refine w_iinc rfl rfl rfl g7 ?_
      refine w_goto rfl ?_
      exact wp_ls (sl_s (sl_s (sl_0))) H

/-- HoleDeskModel.findOffers()V at 56 -/
theorem B118_56 {iv : List (Int × Int)} {L : Nat} {h0 : MH} {d : Nat} {s : SM} {l1 : Int} {F : SM → Prop} (H : ((15 < l1 → F s) ∧ (l1 ≤ 15 → cm iv L h0 d 117 [vr 307, vi l1, vi 0, vi 0] s (qv fun s1 => (-2147483648 ≤ l1 + 1 ∧ l1 + 1 ≤ 2147483647) ∧ wm iv L h0 (d + 1) 118 56 [lr 307, li (l1 + 1)] [] s1 (qv F))))) : wm iv L h0 (d + 1) 118 56 [lr 307, li l1] [] s (qv F) := by
  refine w_iload_n rfl rfl ?_
  refine w_bipush (n := 15) rfl rfl rfl ?_
  refine w_icmp_gt rfl (fun h => ?_) (fun h => ?_)
  · replace H := H.1 h
    exact w_ret rfl rfl ⟨rfl, H⟩
  · replace H := H.2 h
    refine w_aload_n rfl rfl ?_
    refine w_iload_n rfl rfl ?_
    refine w_iconst (n := 0) rfl rfl ?_
    refine w_iconst (n := 0) rfl rfl ?_
    refine m_call (as := [vi l1, vi 0, vi 0]) (r := []) rfl rfl rfl rfl rfl rfl (wc_mono H (Nat.le_refl _) ?_)
    rintro _ s1 ⟨rfl, H⟩
    show wm iv L h0 (d + 1) 118 69 [lr 307, li l1] [] s1 (qv F)
    obtain ⟨g2, H⟩ := H
    refine w_iinc rfl rfl rfl g2 ?_
    refine w_goto rfl ?_
    exact wp_ls (sl_s (sl_s (sl_0))) H
