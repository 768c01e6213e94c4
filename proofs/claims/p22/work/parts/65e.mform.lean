/-! What the methods of the reference come to. Printed by wip/gen2/gens.py. -/
/-- HoleDeskModel.endWork(I)I -/
theorem B135 {iv : List (Int × Int)} {L : Nat} {h0 : MH} {d : Nat} {s : SM} {a1 : Int} {F : Int → SM → Prop} (H : wm iv L h0 d 135 2 [lr 307, li a1, li 0] [] s (qi F)) : cm iv L h0 d 135 [vr 307, vi a1] s (qi F) := by
  show wm iv L h0 d 135 0 [lr 307, li a1] [] s (qi F)
  refine w_iconst (n := 0) rfl rfl ?_
  refine w_istore_n rfl rfl ?_
  exact wp_ls (sl_s (sl_s (sl_s (sl_0)))) H

/-- HoleDeskModel.endWork(I)I at 2 -/
theorem B135_2 {iv : List (Int × Int)} {L : Nat} {h0 : MH} {d : Nat} {s : SM} {l1 : Int} {l2 : Int} {F : Int → SM → Prop} (H : ((s.1 8 ≤ l2 → ((s.1 59 ≤ 0 → (0 ≤ l1 ∧ l1 < 2600) ∧ ((s.2 51 l1 = 0 → F 0 (us (us (us s 62 l1) 35 0) 61 0)) ∧ (s.2 51 l1 ≠ 0 → F 1 (us (us (us s 62 l1) 35 0) 61 1)))) ∧ (0 < s.1 59 → F (s.1 59) (us (us (us s 62 l1) 35 0) 61 (s.1 59))))) ∧ (l2 < s.1 8 → (0 ≤ l2 ∧ l2 < 3004) ∧ (-2147483648 ≤ l2 + 1 ∧ l2 + 1 ≤ 2147483647) ∧ wm iv L h0 d 135 2 [lr 307, li l1, li (l2 + 1)] [] (ua s 42 l2 0) (qi F)))) : wm iv L h0 d 135 2 [lr 307, li l1, li l2] [] s (qi F) := by
  refine w_iload_n rfl rfl ?_
  refine w_aload_n rfl rfl ?_
  refine m_get rfl rfl ?_
  refine w_icmp_ge rfl (fun h => ?_) (fun h => ?_)
  · replace H := H.1 h
    refine w_aload_n rfl rfl ?_
    refine w_iload_n rfl rfl ?_
    refine m_put rfl rfl rfl ?_
    refine w_aload_n rfl rfl ?_
    refine w_iconst (n := 0) rfl rfl ?_
    refine m_putz rfl rfl rfl (by decide) ?_
    refine w_aload_n rfl rfl ?_
    refine w_aload_n rfl rfl ?_
    refine m_get rfl rfl ?_
    show wm iv L h0 d 135 38 [lr 307, li l1, li l2] [vi (s.1 59), vr 307] (us (us s 62 l1) 35 0) (qi F)
    refine w_if_le rfl (fun h => ?_) (fun h => ?_)
    · replace H := H.1 h
      refine w_aload_n rfl rfl ?_
      refine m_geta (t := 2) (k := 2600) rfl rfl ?_
      refine w_iload_n rfl rfl ?_
      obtain ⟨g1, H⟩ := H
      refine m_bald (t := 2) rfl (f := 51) (k := 2600) rfl g1 ?_
      show wm iv L h0 d 135 54 [lr 307, li l1, li l2] [vi (s.2 51 l1), vr 307] (us (us s 62 l1) 35 0) (qi F)
      refine w_if_eq rfl (fun h => ?_) (fun h => ?_)
      · replace H := H.1 h
        refine w_iconst (n := 0) rfl rfl ?_
        refine m_put rfl rfl rfl ?_
        refine w_aload_n rfl rfl ?_
        refine m_get rfl rfl ?_
        show wm iv L h0 d 135 69 [lr 307, li l1, li l2] [vi 0] (us (us (us s 62 l1) 35 0) 61 0) (qi F)
        exact w_iret rfl rfl ⟨_, rfl, H⟩
      · replace H := H.2 h
        refine w_iconst (n := 1) rfl rfl ?_
        refine w_goto rfl ?_
        refine m_put rfl rfl rfl ?_
        refine w_aload_n rfl rfl ?_
        refine m_get rfl rfl ?_
        show wm iv L h0 d 135 69 [lr 307, li l1, li l2] [vi 1] (us (us (us s 62 l1) 35 0) 61 1) (qi F)
        exact w_iret rfl rfl ⟨_, rfl, H⟩
    · replace H := H.2 h
      refine w_aload_n rfl rfl ?_
      refine m_get rfl rfl ?_
      show wm iv L h0 d 135 45 [lr 307, li l1, li l2] [vi (s.1 59), vr 307] (us (us s 62 l1) 35 0) (qi F)
      refine w_goto rfl ?_
      refine m_put rfl rfl rfl ?_
      refine w_aload_n rfl rfl ?_
      refine m_get rfl rfl ?_
      show wm iv L h0 d 135 69 [lr 307, li l1, li l2] [vi (s.1 59)] (us (us (us s 62 l1) 35 0) 61 (s.1 59)) (qi F)
      exact w_iret rfl rfl ⟨_, rfl, H⟩
  · replace H := H.2 h
    refine w_aload_n rfl rfl ?_
    refine m_geta (t := 0) (k := 3004) rfl rfl ?_
    refine w_iload_n rfl rfl ?_
    refine w_iconst (n := 0) rfl rfl ?_
    obtain ⟨g2, H⟩ := H
    refine m_ast rfl (f := 42) (k := 3004) rfl g2 ?_
    obtain ⟨g3, H⟩ := H
    refine w_iinc rfl rfl rfl g3 ?_
    refine w_goto rfl ?_
    exact wp_ls (sl_s (sl_s (sl_s (sl_0)))) H

/-- HoleDeskModel.work(I)I -/
theorem B136 {iv : List (Int × Int)} {L : Nat} {h0 : MH} {d : Nat} {s : SM} {a1 : Int} {F : Int → SM → Prop} (H : ((0 ≤ a1 ∧ a1 ≤ 300 → cm iv L h0 d 134 [vr 307, vi a1, vi 0] s (qv fun s1 => cm iv L h0 d 122 [vr 307, vi (-9)] s1 (qi fun r3 s2 => cm iv L h0 d 126 [vr 307, vi (s2.1 15), vi r3] s2 (qi fun r5 s4 => cm iv L h0 d 135 [vr 307, vi r5] s4 (qi fun r7 s6 => F r7 s6))))) ∧ (a1 < 0 ∨ 300 < a1 → F (-1) s))) : cm iv L h0 (d + 1) 136 [vr 307, vi a1] s (qi F) := by
  show wm iv L h0 (d + 1) 136 0 [lr 307, li a1] [] s (qi F)
  refine w_iload_n rfl rfl ?_
  refine w_iconst (n := 0) rfl rfl ?_
  refine w_sipush (n := 300) rfl rfl rfl ?_
  refine w_static (as := [vi a1, vi 0, vi 300]) (r := []) rfl rfl rfl rfl rfl (m_in (fun h => ?_) (fun h => ?_))
  · show wm iv L h0 (d + 1) 136 8 [lr 307, li a1] [vi 1] s (qi F)
    replace H := H.1 h
    refine w_if_ne rfl (fun _ => ?_) (fun h => absurd h (by decide))
    refine w_aload_n rfl rfl ?_
    refine w_iload_n rfl rfl ?_
    refine w_iconst (n := 0) rfl rfl ?_
    refine m_call (as := [vi a1, vi 0]) (r := []) rfl rfl rfl rfl rfl rfl (wc_mono H (Nat.le_refl _) ?_)
    rintro _ s1 ⟨rfl, H⟩
    show wm iv L h0 (d + 1) 136 19 [lr 307, li a1] [] s1 (qi F)
    refine w_aload_n rfl rfl ?_
    refine w_bipush (n := (-9)) rfl rfl rfl ?_
    refine m_call (as := [vi (-9)]) (r := []) rfl rfl rfl rfl rfl rfl (wc_mono H (Nat.le_refl _) ?_)
    rintro _ s2 ⟨r3, rfl, H⟩
    show wm iv L h0 (d + 1) 136 25 [lr 307, li a1] [vi r3] s2 (qi F)
    refine w_istore_n rfl rfl ?_
    refine w_aload_n rfl rfl ?_
    refine w_aload_n rfl rfl ?_
    refine w_aload_n rfl rfl ?_
    refine m_get rfl rfl ?_
    refine w_iload_n rfl rfl ?_
    refine m_call (as := [vi (s2.1 15), vi r3]) (r := [vr 307]) rfl rfl rfl rfl rfl rfl (wc_mono H (Nat.le_refl _) ?_)
    rintro _ s4 ⟨r5, rfl, H⟩
    show wm iv L h0 (d + 1) 136 36 [lr 307, li a1, li r3] [vi r5, vr 307] s4 (qi F)
    refine m_call (as := [vi r5]) (r := []) rfl rfl rfl rfl rfl rfl (wc_mono H (Nat.le_refl _) ?_)
    rintro _ s6 ⟨r7, rfl, H⟩
    show wm iv L h0 (d + 1) 136 39 [lr 307, li a1, li r3] [vi r7] s6 (qi F)
    exact w_iret rfl rfl ⟨_, rfl, H⟩
  · show wm iv L h0 (d + 1) 136 8 [lr 307, li a1] [vi 0] s (qi F)
    replace H := H.2 h
    refine w_if_ne rfl (fun h => absurd h (by decide)) (fun _ => ?_)
    refine w_iconst (n := (-1)) rfl rfl ?_
    exact w_iret rfl rfl ⟨_, rfl, H⟩

/-- HoleDeskModel.areReasonsSame()Z -/
theorem B137 {iv : List (Int × Int)} {L : Nat} {h0 : MH} {d : Nat} {s : SM} {F : Int → SM → Prop} (H : cm iv L h0 d 86 [vr 307] s (qv fun s1 => cm iv L h0 d 79 [vr 307] s1 (qv fun s2 => wm iv L h0 (d + 1) 137 10 [lr 307, li 0] [] s2 (qi F)))) : cm iv L h0 (d + 1) 137 [vr 307] s (qi F) := by
  show wm iv L h0 (d + 1) 137 0 [lr 307] [] s (qi F)
  refine w_aload_n rfl rfl ?_
  refine m_call (as := []) (r := []) rfl rfl rfl rfl rfl rfl (wc_mono H (Nat.le_refl _) ?_)
  rintro _ s1 ⟨rfl, H⟩
  show wm iv L h0 (d + 1) 137 4 [lr 307] [] s1 (qi F)
  refine w_aload_n rfl rfl ?_
  refine m_call (as := []) (r := []) rfl rfl rfl rfl rfl rfl (wc_mono H (Nat.le_refl _) ?_)
  rintro _ s2 ⟨rfl, H⟩
  show wm iv L h0 (d + 1) 137 8 [lr 307] [] s2 (qi F)
  refine w_iconst (n := 0) rfl rfl ?_
  refine w_istore_n rfl rfl ?_
  exact wp_ls (sl_s (sl_s (sl_0))) H

/-- HoleDeskModel.areReasonsSame()Z at 10 -/
theorem B137_10 {iv : List (Int × Int)} {L : Nat} {h0 : MH} {d : Nat} {s : SM} {l1 : Int} {F : Int → SM → Prop} (H : ((s.1 63 ≤ l1 → F 1 s) ∧ (l1 < s.1 63 → wm iv L h0 (d + 1) 137 20 [lr 307, li l1, li 0] [] s (qi F)))) : wm iv L h0 (d + 1) 137 10 [lr 307, li l1] [] s (qi F) := by
  refine w_iload_n rfl rfl ?_
  refine w_aload_n rfl rfl ?_
  refine m_get rfl rfl ?_
  refine w_icmp_ge rfl (fun h => ?_) (fun h => ?_)
  · replace H := H.1 h
    refine w_iconst (n := 1) rfl rfl ?_
    exact w_iretz rfl rfl (by decide) ⟨_, rfl, H⟩
  · replace H := H.2 h
    refine w_iconst (n := 0) rfl rfl ?_
    refine w_istore_n rfl rfl ?_
    exact wp_ls (sl_s (sl_s (sl_s (sl_0)))) H

/-- HoleDeskModel.areReasonsSame()Z at 20 -/
theorem B137_20 {iv : List (Int × Int)} {L : Nat} {h0 : MH} {d : Nat} {s : SM} {l1 : Int} {l2 : Int} {F : Int → SM → Prop} (H : ((s.1 18 ≤ l2 → (-2147483648 ≤ l1 + 1 ∧ l1 + 1 ≤ 2147483647) ∧ wm iv L h0 (d + 1) 137 10 [lr 307, li (l1 + 1)] [] s (qi F)) ∧ (l2 < s.1 18 → (0 ≤ l2 ∧ l2 < 80) ∧ (0 ≤ l1 ∧ l1 < 80) ∧ ((s.2 17 l2 ≠ s.2 64 l1 → (-2147483648 ≤ l2 + 1 ∧ l2 + 1 ≤ 2147483647) ∧ wm iv L h0 (d + 1) 137 20 [lr 307, li l1, li (l2 + 1)] [] s (qi F)) ∧ (s.2 17 l2 = s.2 64 l1 → (0 ≤ s.2 17 l2 ∧ s.2 17 l2 < 3004) ∧ ((s.2 21 (s.2 17 l2) = s.2 65 l1 → (-2147483648 ≤ l2 + 1 ∧ l2 + 1 ≤ 2147483647) ∧ wm iv L h0 (d + 1) 137 20 [lr 307, li l1, li (l2 + 1)] [] s (qi F)) ∧ (s.2 21 (s.2 17 l2) ≠ s.2 65 l1 → F 0 s))))))) : wm iv L h0 (d + 1) 137 20 [lr 307, li l1, li l2] [] s (qi F) := by
  refine w_iload_n rfl rfl ?_
  refine w_aload_n rfl rfl ?_
  refine m_get rfl rfl ?_
  refine w_icmp_ge rfl (fun h => ?_) (fun h => ?_)
  · replace H := H.1 h
    obtain ⟨g1, H⟩ := H
    refine w_iinc rfl rfl rfl g1 ?_
    refine w_goto rfl ?_
    exact wp_ls (sl_s (sl_s (sl_0))) H
  · replace H := H.2 h
    refine w_aload_n rfl rfl ?_
    refine m_geta (t := 0) (k := 80) rfl rfl ?_
    refine w_iload_n rfl rfl ?_
    obtain ⟨g2, H⟩ := H
    refine m_ald rfl (f := 17) (k := 80) rfl g2 ?_
    refine w_aload_n rfl rfl ?_
    refine m_geta (t := 0) (k := 80) rfl rfl ?_
    refine w_iload_n rfl rfl ?_
    obtain ⟨g3, H⟩ := H
    refine m_ald rfl (f := 64) (k := 80) rfl g3 ?_
    refine w_icmp_ne rfl (fun h => ?_) (fun h => ?_)
    · replace H := H.1 h
      obtain ⟨g4, H⟩ := H
      refine w_iinc rfl rfl rfl g4 ?_
      refine w_goto rfl ?_
      exact wp_ls (sl_s (sl_s (sl_s (sl_0)))) H
    · replace H := H.2 h
      refine w_aload_n rfl rfl ?_
      refine m_geta (t := 0) (k := 3004) rfl rfl ?_
      refine w_aload_n rfl rfl ?_
      refine m_geta (t := 0) (k := 80) rfl rfl ?_
      refine w_iload_n rfl rfl ?_
      refine m_ald rfl (f := 17) (k := 80) rfl g2 ?_
      obtain ⟨g5, H⟩ := H
      refine m_ald rfl (f := 21) (k := 3004) rfl g5 ?_
      refine w_aload_n rfl rfl ?_
      refine m_geta (t := 0) (k := 80) rfl rfl ?_
      refine w_iload_n rfl rfl ?_
      refine m_ald rfl (f := 65) (k := 80) rfl g3 ?_
      refine w_icmp_eq rfl (fun h => ?_) (fun h => ?_)
      · replace H := H.1 h
        obtain ⟨g6, H⟩ := H
        refine w_iinc rfl rfl rfl g6 ?_
        refine w_goto rfl ?_
        exact wp_ls (sl_s (sl_s (sl_s (sl_0)))) H
      · replace H := H.2 h
        refine w_iconst (n := 0) rfl rfl ?_
        exact w_iretz rfl rfl (by decide) ⟨_, rfl, H⟩

/-- HoleDeskModel.resume(I)I -/
theorem B138 {iv : List (Int × Int)} {L : Nat} {h0 : MH} {d : Nat} {s : SM} {a1 : Int} {F : Int → SM → Prop} (H : ((0 ≤ a1 ∧ a1 ≤ 300 → ((s.1 61 = 0 → ((s.1 35 ≠ 0 → F (-4) s) ∧ (s.1 35 = 0 → cm iv L h0 d 137 [vr 307] s (qi fun r2 s1 => ((r2 ≠ 0 → (-2147483648 ≤ 1 - (s1.1 55) ∧ 1 - (s1.1 55) ≤ 2147483647) ∧ cm iv L h0 d 134 [vr 307, vi a1, vi (1 - (s1.1 55))] s1 (qv fun s4 => cm iv L h0 d 132 [vr 307, vi (s1.1 62)] s4 (qi fun r6 s5 => cm iv L h0 d 135 [vr 307, vi r6] s5 (qi fun r8 s7 => F r8 s7)))) ∧ (r2 = 0 → F (-4) s1)))))) ∧ (s.1 61 ≠ 0 → ((s.1 61 ≠ 1 → F (-4) s) ∧ (s.1 61 = 1 → ((s.1 35 ≠ 0 → F (-4) s) ∧ (s.1 35 = 0 → cm iv L h0 d 137 [vr 307] s (qi fun r10 s9 => ((r10 ≠ 0 → (-2147483648 ≤ 1 - (s9.1 55) ∧ 1 - (s9.1 55) ≤ 2147483647) ∧ cm iv L h0 d 134 [vr 307, vi a1, vi (1 - (s9.1 55))] s9 (qv fun s12 => cm iv L h0 d 132 [vr 307, vi (s9.1 62)] s12 (qi fun r14 s13 => cm iv L h0 d 135 [vr 307, vi r14] s13 (qi fun r16 s15 => F r16 s15)))) ∧ (r10 = 0 → F (-4) s9)))))))))) ∧ (a1 < 0 ∨ 300 < a1 → F (-1) s))) : cm iv L h0 (d + 1) 138 [vr 307, vi a1] s (qi F) := by
  show wm iv L h0 (d + 1) 138 0 [lr 307, li a1] [] s (qi F)
  refine w_iload_n rfl rfl ?_
  refine w_iconst (n := 0) rfl rfl ?_
  refine w_sipush (n := 300) rfl rfl rfl ?_
  refine w_static (as := [vi a1, vi 0, vi 300]) (r := []) rfl rfl rfl rfl rfl (m_in (fun h => ?_) (fun h => ?_))
  · show wm iv L h0 (d + 1) 138 8 [lr 307, li a1] [vi 1] s (qi F)
    replace H := H.1 h
    refine w_if_ne rfl (fun _ => ?_) (fun h => absurd h (by decide))
    refine w_aload_n rfl rfl ?_
    refine m_get rfl rfl ?_
    refine w_if_eq rfl (fun h => ?_) (fun h => ?_)
    · replace H := H.1 h
      refine w_aload_n rfl rfl ?_
      refine m_get rfl rfl ?_
      refine w_if_ne rfl (fun h => ?_) (fun h => ?_)
      · replace H := H.1 h
        refine w_bipush (n := (-4)) rfl rfl rfl ?_
        exact w_iret rfl rfl ⟨_, rfl, H⟩
      · replace H := H.2 h
        refine w_aload_n rfl rfl ?_
        refine m_call (as := []) (r := []) rfl rfl rfl rfl rfl rfl (wc_mono H (Nat.le_refl _) ?_)
        rintro _ s1 ⟨r2, rfl, H⟩
        show wm iv L h0 (d + 1) 138 39 [lr 307, li a1] [vi r2] s1 (qi F)
        refine w_if_ne rfl (fun h => ?_) (fun h => ?_)
        · replace H := H.1 h
          refine w_aload_n rfl rfl ?_
          refine m_get rfl rfl ?_
          refine w_istore_n rfl rfl ?_
          refine w_aload_n rfl rfl ?_
          refine w_iload_n rfl rfl ?_
          refine w_iconst (n := 1) rfl rfl ?_
          refine w_aload_n rfl rfl ?_
          refine m_get rfl rfl ?_
          obtain ⟨g3, H⟩ := H
          refine w_isub rfl g3 ?_
          refine m_call (as := [vi a1, vi (1 - (s1.1 55))]) (r := []) rfl rfl rfl rfl rfl rfl (wc_mono H (Nat.le_refl _) ?_)
          rintro _ s4 ⟨rfl, H⟩
          show wm iv L h0 (d + 1) 138 61 [lr 307, li a1, li (s1.1 62)] [] s4 (qi F)
          refine w_aload_n rfl rfl ?_
          refine w_aload_n rfl rfl ?_
          refine w_iload_n rfl rfl ?_
          refine m_call (as := [vi (s1.1 62)]) (r := [vr 307]) rfl rfl rfl rfl rfl rfl (wc_mono H (Nat.le_refl _) ?_)
          rintro _ s5 ⟨r6, rfl, H⟩
          show wm iv L h0 (d + 1) 138 67 [lr 307, li a1, li (s1.1 62)] [vi r6, vr 307] s5 (qi F)
          refine m_call (as := [vi r6]) (r := []) rfl rfl rfl rfl rfl rfl (wc_mono H (Nat.le_refl _) ?_)
          rintro _ s7 ⟨r8, rfl, H⟩
          show wm iv L h0 (d + 1) 138 70 [lr 307, li a1, li (s1.1 62)] [vi r8] s7 (qi F)
          exact w_iret rfl rfl ⟨_, rfl, H⟩
        · replace H := H.2 h
          refine w_bipush (n := (-4)) rfl rfl rfl ?_
          exact w_iret rfl rfl ⟨_, rfl, H⟩
    · replace H := H.2 h
      refine w_aload_n rfl rfl ?_
      refine m_get rfl rfl ?_
      refine w_iconst (n := 1) rfl rfl ?_
      refine w_icmp_ne rfl (fun h => ?_) (fun h => ?_)
      · replace H := H.1 h
        refine w_bipush (n := (-4)) rfl rfl rfl ?_
        exact w_iret rfl rfl ⟨_, rfl, H⟩
      · replace H := H.2 h
        refine w_aload_n rfl rfl ?_
        refine m_get rfl rfl ?_
        refine w_if_ne rfl (fun h => ?_) (fun h => ?_)
        · replace H := H.1 h
          refine w_bipush (n := (-4)) rfl rfl rfl ?_
          exact w_iret rfl rfl ⟨_, rfl, H⟩
        · replace H := H.2 h
          refine w_aload_n rfl rfl ?_
          refine m_call (as := []) (r := []) rfl rfl rfl rfl rfl rfl (wc_mono H (Nat.le_refl _) ?_)
          rintro _ s9 ⟨r10, rfl, H⟩
          show wm iv L h0 (d + 1) 138 39 [lr 307, li a1] [vi r10] s9 (qi F)
          refine w_if_ne rfl (fun h => ?_) (fun h => ?_)
          · replace H := H.1 h
            refine w_aload_n rfl rfl ?_
            refine m_get rfl rfl ?_
            refine w_istore_n rfl rfl ?_
            refine w_aload_n rfl rfl ?_
            refine w_iload_n rfl rfl ?_
            refine w_iconst (n := 1) rfl rfl ?_
            refine w_aload_n rfl rfl ?_
            refine m_get rfl rfl ?_
            obtain ⟨g11, H⟩ := H
            refine w_isub rfl g11 ?_
            refine m_call (as := [vi a1, vi (1 - (s9.1 55))]) (r := []) rfl rfl rfl rfl rfl rfl (wc_mono H (Nat.le_refl _) ?_)
            rintro _ s12 ⟨rfl, H⟩
            show wm iv L h0 (d + 1) 138 61 [lr 307, li a1, li (s9.1 62)] [] s12 (qi F)
            refine w_aload_n rfl rfl ?_
            refine w_aload_n rfl rfl ?_
            refine w_iload_n rfl rfl ?_
            refine m_call (as := [vi (s9.1 62)]) (r := [vr 307]) rfl rfl rfl rfl rfl rfl (wc_mono H (Nat.le_refl _) ?_)
            rintro _ s13 ⟨r14, rfl, H⟩
            show wm iv L h0 (d + 1) 138 67 [lr 307, li a1, li (s9.1 62)] [vi r14, vr 307] s13 (qi F)
            refine m_call (as := [vi r14]) (r := []) rfl rfl rfl rfl rfl rfl (wc_mono H (Nat.le_refl _) ?_)
            rintro _ s15 ⟨r16, rfl, H⟩
            show wm iv L h0 (d + 1) 138 70 [lr 307, li a1, li (s9.1 62)] [vi r16] s15 (qi F)
            exact w_iret rfl rfl ⟨_, rfl, H⟩
          · replace H := H.2 h
            refine w_bipush (n := (-4)) rfl rfl rfl ?_
            exact w_iret rfl rfl ⟨_, rfl, H⟩
  · show wm iv L h0 (d + 1) 138 8 [lr 307, li a1] [vi 0] s (qi F)
    replace H := H.2 h
    refine w_if_ne rfl (fun h => absurd h (by decide)) (fun _ => ?_)
    refine w_iconst (n := (-1)) rfl rfl ?_
    exact w_iret rfl rfl ⟨_, rfl, H⟩

/-- HoleDeskModel.steps()I -/
theorem B139 {iv : List (Int × Int)} {L : Nat} {h0 : MH} {d : Nat} {s : SM} {F : Int → SM → Prop} (H : F (s.1 56) s) : cm iv L h0 d 139 [vr 307] s (qi F) := by
  show wm iv L h0 d 139 0 [lr 307] [] s (qi F)
  refine w_aload_n rfl rfl ?_
  refine m_get rfl rfl ?_
  exact w_iret rfl rfl ⟨_, rfl, H⟩

/-- HoleDeskModel.where()I -/
theorem B140 {iv : List (Int × Int)} {L : Nat} {h0 : MH} {d : Nat} {s : SM} {F : Int → SM → Prop} (H : F (s.1 60) s) : cm iv L h0 d 140 [vr 307] s (qi F) := by
  show wm iv L h0 d 140 0 [lr 307] [] s (qi F)
  refine w_aload_n rfl rfl ?_
  refine m_get rfl rfl ?_
  exact w_iret rfl rfl ⟨_, rfl, H⟩

/-- HoleDeskModel.out(I)V -/
theorem B141 {iv : List (Int × Int)} {L : Nat} {h0 : MH} {d : Nat} {s : SM} {a1 : Int} {F : SM → Prop} (H : ((400 ≤ s.1 67 → F s) ∧ (s.1 67 < 400 → (0 ≤ s.1 67 ∧ s.1 67 < 400) ∧ (-128 ≤ w8 a1 ∧ w8 a1 ≤ 127) ∧ (-2147483648 ≤ (s.1 67) + 1 ∧ (s.1 67) + 1 ≤ 2147483647) ∧ F (us (ua s 66 (s.1 67) (w8 a1)) 67 ((s.1 67) + 1))))) : cm iv L h0 d 141 [vr 307, vi a1] s (qv F) := by
  show wm iv L h0 d 141 0 [lr 307, li a1] [] s (qv F)
  refine w_aload_n rfl rfl ?_
  refine m_get rfl rfl ?_
  refine w_sipush (n := 400) rfl rfl rfl ?_
  refine w_icmp_ge rfl (fun h => ?_) (fun h => ?_)
  · replace H := H.1 h
    exact w_ret rfl rfl ⟨rfl, H⟩
  · replace H := H.2 h
    refine w_aload_n rfl rfl ?_
    refine m_geta (t := 1) (k := 400) rfl rfl ?_
    refine w_aload_n rfl rfl ?_
    refine m_get rfl rfl ?_
    refine w_iload_n rfl rfl ?_
    refine w_i2b rfl ?_
    obtain ⟨g1, H⟩ := H
    obtain ⟨g2, H⟩ := H
    refine m_bast (t := 1) rfl (f := 66) (k := 400) rfl g1 (Or.inl ⟨rfl, g2⟩) ?_
    refine w_aload_n rfl rfl ?_
    refine w_dup rfl rfl ?_
    refine m_get rfl rfl ?_
    show wm iv L h0 d 141 26 [lr 307, li a1] [vi (s.1 67), vr 307] (ua s 66 (s.1 67) (w8 a1)) (qv F)
    refine w_iconst (n := 1) rfl rfl ?_
    obtain ⟨g3, H⟩ := H
    refine w_iadd rfl g3 ?_
    refine m_put rfl rfl rfl ?_
    exact w_ret rfl rfl ⟨rfl, H⟩

/-- HoleDeskModel.outNumber(I)V -/
theorem B142 {iv : List (Int × Int)} {L : Nat} {h0 : MH} {d : Nat} {s : SM} {a1 : Int} {F : SM → Prop} (H : ((0 ≤ a1 → wm iv L h0 (d + 1) 142 19 [lr 307, ln, ll a1, ln, li 0] [] s (qv F)) ∧ (a1 < 0 → cm iv L h0 d 141 [vr 307, vi 45] s (qv fun s1 => wm iv L h0 (d + 1) 142 19 [lr 307, ln, ll (-a1), ln, li 0] [] s1 (qv F))))) : cm iv L h0 (d + 1) 142 [vr 307, vi a1] s (qv F) := by
  show wm iv L h0 (d + 1) 142 0 [lr 307, li a1] [] s (qv F)
  refine w_iload_n rfl rfl ?_
  refine w_i2l rfl ?_
  refine w_lstore_n rfl rfl ?_
  refine w_iload_n rfl rfl ?_
  refine w_if_ge rfl (fun h => ?_) (fun h => ?_)
  · replace H := H.1 h
    refine w_iconst (n := 0) rfl rfl ?_
    refine w_istore rfl rfl ?_
    exact wp_ls (sl_s (sl_n (sl_s (sl_n (sl_s (sl_0)))))) H
  · replace H := H.2 h
    refine w_aload_n rfl rfl ?_
    refine w_bipush (n := 45) rfl rfl rfl ?_
    refine m_call (as := [vi 45]) (r := []) rfl rfl rfl rfl rfl rfl (wc_mono H (Nat.le_refl _) ?_)
    rintro _ s1 ⟨rfl, H⟩
    show wm iv L h0 (d + 1) 142 13 [lr 307, li a1, ll a1, ln] [] s1 (qv F)
    refine w_lload_n rfl rfl ?_
    refine w_lneg rfl ?_
    refine w_lstore_n rfl rfl ?_
    refine w_iconst (n := 0) rfl rfl ?_
    refine w_istore rfl rfl ?_
    exact wp_ls (sl_s (sl_n (sl_s (sl_n (sl_s (sl_0)))))) H

/-- HoleDeskModel.outNumber(I)V at 19 -/
theorem B142_19 {iv : List (Int × Int)} {L : Nat} {h0 : MH} {d : Nat} {s : SM} {l2 : Int} {l4 : Int} {F : SM → Prop} (H : (inL l2) ∧ (inL 10) ∧ (inL (l2.tdiv 10)) ∧ (0 ≤ l4 ∧ l4 < 12) ∧ (-2147483648 ≤ l4 + 1 ∧ l4 + 1 ≤ 2147483647) ∧ (inL 0) ∧ ((0 < lcp (l2.tdiv 10) 0 → wm iv L h0 (d + 1) 142 19 [lr 307, ln, ll (l2.tdiv 10), ln, li (l4 + 1)] [] (ua s 70 l4 (w32 (l2 - l2.tdiv 10 * 10))) (qv F)) ∧ (lcp (l2.tdiv 10) 0 ≤ 0 → (-2147483648 ≤ (l4 + 1) - 1 ∧ (l4 + 1) - 1 ≤ 2147483647) ∧ wm iv L h0 (d + 1) 142 53 [lr 307, ln, ln, ln, ln, li ((l4 + 1) - 1)] [] (ua s 70 l4 (w32 (l2 - l2.tdiv 10 * 10))) (qv F)))) : wm iv L h0 (d + 1) 142 19 [lr 307, ln, ll l2, ln, li l4] [] s (qv F) := by
  refine w_aload_n rfl rfl ?_
  refine m_geta (t := 0) (k := 12) rfl rfl ?_
  refine w_iload rfl rfl ?_
  refine w_lload_n rfl rfl ?_
  refine w_ldc2 (z := 10) rfl rfl ?_
  obtain ⟨g1, H⟩ := H
  obtain ⟨g2, H⟩ := H
  obtain ⟨g3, H⟩ := H
  refine w_lrem rfl g1 g2 (by decide) g3 ?_
  refine w_l2i rfl ?_
  obtain ⟨g4, H⟩ := H
  refine m_ast rfl (f := 70) (k := 12) rfl g4 ?_
  obtain ⟨g5, H⟩ := H
  refine w_iinc rfl rfl rfl g5 ?_
  refine w_lload_n rfl rfl ?_
  refine w_ldc2 (z := 10) rfl rfl ?_
  refine w_ldiv rfl g1 g2 (by decide) g3 ?_
  refine w_lstore_n rfl rfl ?_
  refine w_lload_n rfl rfl ?_
  refine w_lconst (z := 0) rfl rfl ?_
  obtain ⟨g6, H⟩ := H
  refine w_lcmp rfl g3 g6 ?_
  refine w_if_gt rfl (fun h => ?_) (fun h => ?_)
  · replace H := H.1 h
    exact wp_ls (sl_s (sl_n (sl_s (sl_n (sl_s (sl_0)))))) H
  · replace H := H.2 h
    refine w_iload rfl rfl ?_
    refine w_iconst (n := 1) rfl rfl ?_
    obtain ⟨g7, H⟩ := H
    refine w_isub rfl g7 ?_
    refine w_istore rfl rfl ?_
    exact wp_ls (sl_s (sl_n (sl_n (sl_n (sl_n (sl_s (sl_0))))))) H

/-- HoleDeskModel.outNumber(I)V at 53 -/
theorem B142_53 {iv : List (Int × Int)} {L : Nat} {h0 : MH} {d : Nat} {s : SM} {l5 : Int} {F : SM → Prop} (H : ((l5 < 0 → F s) ∧ (0 ≤ l5 → (0 ≤ l5 ∧ l5 < 12) ∧ (-2147483648 ≤ 48 + (s.2 70 l5) ∧ 48 + (s.2 70 l5) ≤ 2147483647) ∧ cm iv L h0 d 141 [vr 307, vi (48 + (s.2 70 l5))] s (qv fun s3 => (-2147483648 ≤ l5 - 1 ∧ l5 - 1 ≤ 2147483647) ∧ wm iv L h0 (d + 1) 142 53 [lr 307, ln, ln, ln, ln, li (l5 - 1)] [] s3 (qv F))))) : wm iv L h0 (d + 1) 142 53 [lr 307, ln, ln, ln, ln, li l5] [] s (qv F) := by
  refine w_iload rfl rfl ?_
  refine w_if_lt rfl (fun h => ?_) (fun h => ?_)
  · replace H := H.1 h
    exact w_ret rfl rfl ⟨rfl, H⟩
  · replace H := H.2 h
    refine w_aload_n rfl rfl ?_
    refine w_bipush (n := 48) rfl rfl rfl ?_
    refine w_aload_n rfl rfl ?_
    refine m_geta (t := 0) (k := 12) rfl rfl ?_
    refine w_iload rfl rfl ?_
    obtain ⟨g1, H⟩ := H
    refine m_ald rfl (f := 70) (k := 12) rfl g1 ?_
    obtain ⟨g2, H⟩ := H
    refine w_iadd rfl g2 ?_
    refine m_call (as := [vi (48 + (s.2 70 l5))]) (r := []) rfl rfl rfl rfl rfl rfl (wc_mono H (Nat.le_refl _) ?_)
    rintro _ s3 ⟨rfl, H⟩
    show wm iv L h0 (d + 1) 142 72 [lr 307, ln, ln, ln, ln, li l5] [] s3 (qv F)
    obtain ⟨g4, H⟩ := H
    refine w_iinc rfl rfl rfl g4 ?_
    show wm iv L h0 (d + 1) 142 75 [lr 307, ln, ln, ln, ln, li (l5 - 1)] [] s3 (qv F)
    refine w_goto rfl ?_
    exact wp_ls (sl_s (sl_n (sl_n (sl_n (sl_n (sl_s (sl_0))))))) H

/-- HoleDeskModel.outWord(Ljava/lang/String;)V -/
theorem B143 {iv : List (Int × Int)} {L : Nat} {h0 : MH} {d : Nat} {s : SM} {a1 : Nat} {F : SM → Prop} (H : wm iv L h0 (d + 1) 143 2 [lr 307, lr a1, li 0] [] s (qv F)) : cm iv L h0 (d + 1) 143 [vr 307, vr a1] s (qv F) := by
  show wm iv L h0 (d + 1) 143 0 [lr 307, lr a1] [] s (qv F)
  refine w_iconst (n := 0) rfl rfl ?_
  refine w_istore_n rfl rfl ?_
  exact wp_ls (sl_s (sl_s (sl_s (sl_0)))) H

/-- HoleDeskModel.outWord(Ljava/lang/String;)V at 2 -/
theorem B143_2 {iv : List (Int × Int)} {L : Nat} {h0 : MH} {d : Nat} {s : SM} {l1 : Nat} {l2 : Int} {F : SM → Prop} (H : (8 ≤ l1 ∧ l1 < 8 + NS0) ∧ ((slen l1 ≤ l2 → F s) ∧ (l2 < slen l1 → (0 ≤ l2 ∧ l2 < slen l1) ∧ cm iv L h0 d 141 [vr 307, vi (scat l1 l2)] s (qv fun s3 => (-2147483648 ≤ l2 + 1 ∧ l2 + 1 ≤ 2147483647) ∧ wm iv L h0 (d + 1) 143 2 [lr 307, lr l1, li (l2 + 1)] [] s3 (qv F))))) : wm iv L h0 (d + 1) 143 2 [lr 307, lr l1, li l2] [] s (qv F) := by
  refine w_iload_n rfl rfl ?_
  refine w_aload_n rfl rfl ?_
  obtain ⟨g1, H⟩ := H
  refine w_slen rfl g1 rfl ?_
  refine w_icmp_ge rfl (fun h => ?_) (fun h => ?_)
  · replace H := H.1 h
    exact w_ret rfl rfl ⟨rfl, H⟩
  · replace H := H.2 h
    refine w_aload_n rfl rfl ?_
    refine w_aload_n rfl rfl ?_
    refine w_iload_n rfl rfl ?_
    obtain ⟨g2, H⟩ := H
    refine w_sat rfl g1 g2 rfl ?_
    refine m_call (as := [vi (scat l1 l2)]) (r := []) rfl rfl rfl rfl rfl rfl (wc_mono H (Nat.le_refl _) ?_)
    rintro _ s3 ⟨rfl, H⟩
    show wm iv L h0 (d + 1) 143 19 [lr 307, lr l1, li l2] [] s3 (qv F)
    obtain ⟨g4, H⟩ := H
    refine w_iinc rfl rfl rfl g4 ?_
    refine w_goto rfl ?_
    exact wp_ls (sl_s (sl_s (sl_s (sl_0)))) H

/-- HoleDeskModel.wordOf(I)Ljava/lang/String; -/
theorem B144 {iv : List (Int × Int)} {L : Nat} {h0 : MH} {d : Nat} {s : SM} {a1 : Int} {F : Nat → SM → Prop} (H : ((a1 = 4 → F 21 s) ∧ (a1 = 5 → F 22 s) ∧ (a1 = 6 → F 23 s) ∧ (a1 = 7 → F 24 s) ∧ (a1 = 8 ∨ a1 = 10 ∨ a1 = 12 ∨ a1 < 4 ∨ 13 < a1 → F 28 s) ∧ (a1 = 9 → F 25 s) ∧ (a1 = 11 → F 26 s) ∧ (a1 = 13 → F 27 s))) : cm iv L h0 d 144 [vi a1] s (qa F) := by
  show wm iv L h0 d 144 0 [li a1] [] s (qa F)
  refine w_iload_n rfl rfl ?_
  have J56 : (a1 = 4) → wm iv L h0 d 144 56 [li a1] [] s (qa F) := fun h => by
    replace H := H.1 h
    refine w_ldcws (x := 21) rfl rfl (by decide) ?_
    exact w_aret rfl rfl ⟨_, rfl, H⟩
  have J60 : (a1 = 5) → wm iv L h0 d 144 60 [li a1] [] s (qa F) := fun h => by
    replace H := H.2.1 h
    refine w_ldcws (x := 22) rfl rfl (by decide) ?_
    exact w_aret rfl rfl ⟨_, rfl, H⟩
  have J64 : (a1 = 6) → wm iv L h0 d 144 64 [li a1] [] s (qa F) := fun h => by
    replace H := H.2.2.1 h
    refine w_ldcws (x := 23) rfl rfl (by decide) ?_
    exact w_aret rfl rfl ⟨_, rfl, H⟩
  have J68 : (a1 = 7) → wm iv L h0 d 144 68 [li a1] [] s (qa F) := fun h => by
    replace H := H.2.2.2.1 h
    refine w_ldcws (x := 24) rfl rfl (by decide) ?_
    exact w_aret rfl rfl ⟨_, rfl, H⟩
  have J84 : (a1 = 8 ∨ a1 = 10 ∨ a1 = 12 ∨ a1 < 4 ∨ 13 < a1) → wm iv L h0 d 144 84 [li a1] [] s (qa F) := fun h => by
    replace H := H.2.2.2.2.1 h
    refine w_ldcws (x := 28) rfl rfl (by decide) ?_
    exact w_aret rfl rfl ⟨_, rfl, H⟩
  have J72 : (a1 = 9) → wm iv L h0 d 144 72 [li a1] [] s (qa F) := fun h => by
    replace H := H.2.2.2.2.2.1 h
    refine w_ldcws (x := 25) rfl rfl (by decide) ?_
    exact w_aret rfl rfl ⟨_, rfl, H⟩
  have J76 : (a1 = 11) → wm iv L h0 d 144 76 [li a1] [] s (qa F) := fun h => by
    replace H := H.2.2.2.2.2.2.1 h
    refine w_ldcws (x := 26) rfl rfl (by decide) ?_
    exact w_aret rfl rfl ⟨_, rfl, H⟩
  have J80 : (a1 = 13) → wm iv L h0 d 144 80 [li a1] [] s (qa F) := fun h => by
    replace H := H.2.2.2.2.2.2.2 h
    refine w_ldcws (x := 27) rfl rfl (by decide) ?_
    exact w_aret rfl rfl ⟨_, rfl, H⟩
  refine w_tsw (td := 84) (ts := [56, 60, 64, 68, 84, 72, 84, 76, 84, 80]) rfl rfl rfl rfl rfl rfl (fun h => J84 (by omega)) ?_
  exact swA_c (fun h => J56 (by omega)) (swA_c (fun h => J60 (by omega)) (swA_c (fun h => J64 (by omega)) (swA_c (fun h => J68 (by omega)) (swA_c (fun h => J84 (by omega)) (swA_c (fun h => J72 (by omega)) (swA_c (fun h => J84 (by omega)) (swA_c (fun h => J76 (by omega)) (swA_c (fun h => J84 (by omega)) (swA_c (fun h => J80 (by omega)) (swA_n))))))))))

/-- HoleDeskModel.outValue(I)V -/
theorem B145 {iv : List (Int × Int)} {L : Nat} {h0 : MH} {d : Nat} {s : SM} {a1 : Int} {F : SM → Prop} (H : ((s.1 67 ≠ 400 → (0 ≤ a1 ∧ a1 < 2600) ∧ ((s.2 46 a1 = 0 → cm iv L h0 d 142 [vr 307, vi (s.2 47 a1)] s (qv fun s2 => F s2)) ∧ (s.2 46 a1 = 1 → ((s.2 47 a1 ≠ 1 → cm iv L h0 d 143 [vr 307, vr 20] s (qv fun s3 => F s3)) ∧ (s.2 47 a1 = 1 → cm iv L h0 d 143 [vr 307, vr 19] s (qv fun s4 => F s4)))) ∧ (s.2 46 a1 = 2 → cm iv L h0 d 141 [vr 307, vi 100] s (qv fun s5 => cm iv L h0 d 142 [vr 307, vi (s5.2 47 a1)] s5 (qv fun s6 => F s6))) ∧ (s.2 46 a1 = 3 → cm iv L h0 d 141 [vr 307, vi 91] s (qv fun s7 => cm iv L h0 d 145 [vr 307, vi (s7.2 48 a1)] s7 (qv fun s8 => cm iv L h0 d 141 [vr 307, vi 32] s8 (qv fun s9 => cm iv L h0 d 145 [vr 307, vi (s9.2 49 a1)] s9 (qv fun s10 => cm iv L h0 d 141 [vr 307, vi 93] s10 (qv fun s11 => F s11)))))) ∧ (s.2 46 a1 = 4 → (0 ≤ s.1 69 ∧ s.1 69 < 400) ∧ (-2147483648 ≤ (s.1 69) + 1 ∧ (s.1 69) + 1 ≤ 2147483647) ∧ cm iv L h0 d 141 [vr 307, vi 63] (us (ua s 68 (s.1 69) a1) 69 ((s.1 69) + 1)) (qv fun s14 => cm iv L h0 d 142 [vr 307, vi (s14.2 47 a1)] s14 (qv fun s15 => F s15))) ∧ (s.2 46 a1 = 5 → cm iv L h0 d 141 [vr 307, vi 33] s (qv fun s16 => (-2147483648 ≤ 97 + (s16.2 47 a1) ∧ 97 + (s16.2 47 a1) ≤ 2147483647) ∧ cm iv L h0 d 141 [vr 307, vi (97 + (s16.2 47 a1))] s16 (qv fun s18 => F s18))) ∧ (s.2 46 a1 = 6 → cm iv L h0 d 141 [vr 307, vi 123] s (qv fun s19 => cm iv L h0 d 145 [vr 307, vi (s19.2 48 a1)] s19 (qv fun s20 => cm iv L h0 d 141 [vr 307, vi 125] s20 (qv fun s21 => F s21)))) ∧ (s.2 46 a1 < 0 ∨ 6 < s.2 46 a1 → cm iv L h0 d 141 [vr 307, vi 40] s (qv fun s22 => (0 ≤ s22.2 47 a1 ∧ s22.2 47 a1 < 3004) ∧ cm iv L h0 d 144 [vi (s22.2 9 (s22.2 47 a1))] s22 (qa fun r25 s24 => cm iv L h0 d 143 [vr 307, vr r25] s24 (qv fun s26 => cm iv L h0 d 141 [vr 307, vi 32] s26 (qv fun s27 => cm iv L h0 d 145 [vr 307, vi (s27.2 48 a1)] s27 (qv fun s28 => ((s28.2 49 a1 = (-9) → (0 ≤ s28.2 47 a1 ∧ s28.2 47 a1 < 3004) ∧ ((s28.2 9 (s28.2 47 a1) ≠ 11 → cm iv L h0 d 141 [vr 307, vi 41] s28 (qv fun s30 => F s30)) ∧ (s28.2 9 (s28.2 47 a1) = 11 → cm iv L h0 d 141 [vr 307, vi 32] s28 (qv fun s31 => cm iv L h0 d 142 [vr 307, vi (s31.2 47 a1)] s31 (qv fun s32 => cm iv L h0 d 141 [vr 307, vi 41] s32 (qv fun s33 => F s33)))))) ∧ (s28.2 49 a1 ≠ (-9) → cm iv L h0 d 141 [vr 307, vi 32] s28 (qv fun s34 => cm iv L h0 d 145 [vr 307, vi (s34.2 49 a1)] s34 (qv fun s35 => (0 ≤ s35.2 47 a1 ∧ s35.2 47 a1 < 3004) ∧ ((s35.2 9 (s35.2 47 a1) ≠ 11 → cm iv L h0 d 141 [vr 307, vi 41] s35 (qv fun s37 => F s37)) ∧ (s35.2 9 (s35.2 47 a1) = 11 → cm iv L h0 d 141 [vr 307, vi 32] s35 (qv fun s38 => cm iv L h0 d 142 [vr 307, vi (s38.2 47 a1)] s38 (qv fun s39 => cm iv L h0 d 141 [vr 307, vi 41] s39 (qv fun s40 => F s40))))))))))))))))) ∧ (s.1 67 = 400 → F s))) : cm iv L h0 (d + 1) 145 [vr 307, vi a1] s (qv F) := by
  show wm iv L h0 (d + 1) 145 0 [lr 307, li a1] [] s (qv F)
  refine w_aload_n rfl rfl ?_
  refine m_get rfl rfl ?_
  refine w_sipush (n := 400) rfl rfl rfl ?_
  refine w_icmp_ne rfl (fun h => ?_) (fun h => ?_)
  · replace H := H.1 h
    refine w_aload_n rfl rfl ?_
    refine m_geta (t := 0) (k := 2600) rfl rfl ?_
    refine w_iload_n rfl rfl ?_
    obtain ⟨g1, H⟩ := H
    refine m_ald rfl (f := 46) (k := 2600) rfl g1 ?_
    have J60 : (s.2 46 a1 = 0) → wm iv L h0 (d + 1) 145 60 [lr 307, li a1] [] s (qv F) := fun h => by
      replace H := H.1 h
      refine w_aload_n rfl rfl ?_
      refine w_aload_n rfl rfl ?_
      refine m_geta (t := 0) (k := 2600) rfl rfl ?_
      refine w_iload_n rfl rfl ?_
      refine m_ald rfl (f := 47) (k := 2600) rfl g1 ?_
      refine m_call (as := [vi (s.2 47 a1)]) (r := []) rfl rfl rfl rfl rfl rfl (wc_mono H (Nat.le_refl _) ?_)
      rintro _ s2 ⟨rfl, H⟩
      show wm iv L h0 (d + 1) 145 70 [lr 307, li a1] [] s2 (qv F)
      refine w_goto rfl ?_
      exact w_ret rfl rfl ⟨rfl, H⟩
    have J73 : (s.2 46 a1 = 1) → wm iv L h0 (d + 1) 145 73 [lr 307, li a1] [] s (qv F) := fun h => by
      replace H := H.2.1 h
      refine w_aload_n rfl rfl ?_
      refine w_aload_n rfl rfl ?_
      refine m_geta (t := 0) (k := 2600) rfl rfl ?_
      refine w_iload_n rfl rfl ?_
      refine m_ald rfl (f := 47) (k := 2600) rfl g1 ?_
      refine w_iconst (n := 1) rfl rfl ?_
      refine w_icmp_ne rfl (fun h => ?_) (fun h => ?_)
      · replace H := H.1 h
        refine w_ldcws (x := 20) rfl rfl (by decide) ?_
        refine m_call (as := [vr 20]) (r := []) rfl rfl rfl rfl rfl rfl (wc_mono H (Nat.le_refl _) ?_)
        rintro _ s3 ⟨rfl, H⟩
        show wm iv L h0 (d + 1) 145 96 [lr 307, li a1] [] s3 (qv F)
        refine w_goto rfl ?_
        exact w_ret rfl rfl ⟨rfl, H⟩
      · replace H := H.2 h
        refine w_ldcws (x := 19) rfl rfl (by decide) ?_
        refine w_goto rfl ?_
        refine m_call (as := [vr 19]) (r := []) rfl rfl rfl rfl rfl rfl (wc_mono H (Nat.le_refl _) ?_)
        rintro _ s4 ⟨rfl, H⟩
        show wm iv L h0 (d + 1) 145 96 [lr 307, li a1] [] s4 (qv F)
        refine w_goto rfl ?_
        exact w_ret rfl rfl ⟨rfl, H⟩
    have J99 : (s.2 46 a1 = 2) → wm iv L h0 (d + 1) 145 99 [lr 307, li a1] [] s (qv F) := fun h => by
      replace H := H.2.2.1 h
      refine w_aload_n rfl rfl ?_
      refine w_bipush (n := 100) rfl rfl rfl ?_
      refine m_call (as := [vi 100]) (r := []) rfl rfl rfl rfl rfl rfl (wc_mono H (Nat.le_refl _) ?_)
      rintro _ s5 ⟨rfl, H⟩
      show wm iv L h0 (d + 1) 145 105 [lr 307, li a1] [] s5 (qv F)
      refine w_aload_n rfl rfl ?_
      refine w_aload_n rfl rfl ?_
      refine m_geta (t := 0) (k := 2600) rfl rfl ?_
      refine w_iload_n rfl rfl ?_
      refine m_ald rfl (f := 47) (k := 2600) rfl g1 ?_
      refine m_call (as := [vi (s5.2 47 a1)]) (r := []) rfl rfl rfl rfl rfl rfl (wc_mono H (Nat.le_refl _) ?_)
      rintro _ s6 ⟨rfl, H⟩
      show wm iv L h0 (d + 1) 145 115 [lr 307, li a1] [] s6 (qv F)
      refine w_goto rfl ?_
      exact w_ret rfl rfl ⟨rfl, H⟩
    have J118 : (s.2 46 a1 = 3) → wm iv L h0 (d + 1) 145 118 [lr 307, li a1] [] s (qv F) := fun h => by
      replace H := H.2.2.2.1 h
      refine w_aload_n rfl rfl ?_
      refine w_bipush (n := 91) rfl rfl rfl ?_
      refine m_call (as := [vi 91]) (r := []) rfl rfl rfl rfl rfl rfl (wc_mono H (Nat.le_refl _) ?_)
      rintro _ s7 ⟨rfl, H⟩
      show wm iv L h0 (d + 1) 145 124 [lr 307, li a1] [] s7 (qv F)
      refine w_aload_n rfl rfl ?_
      refine w_aload_n rfl rfl ?_
      refine m_geta (t := 0) (k := 2600) rfl rfl ?_
      refine w_iload_n rfl rfl ?_
      refine m_ald rfl (f := 48) (k := 2600) rfl g1 ?_
      refine m_call (as := [vi (s7.2 48 a1)]) (r := []) rfl rfl rfl rfl rfl rfl (wc_mono H (Nat.le_refl _) ?_)
      rintro _ s8 ⟨rfl, H⟩
      show wm iv L h0 (d + 1) 145 134 [lr 307, li a1] [] s8 (qv F)
      refine w_aload_n rfl rfl ?_
      refine w_bipush (n := 32) rfl rfl rfl ?_
      refine m_call (as := [vi 32]) (r := []) rfl rfl rfl rfl rfl rfl (wc_mono H (Nat.le_refl _) ?_)
      rintro _ s9 ⟨rfl, H⟩
      show wm iv L h0 (d + 1) 145 140 [lr 307, li a1] [] s9 (qv F)
      refine w_aload_n rfl rfl ?_
      refine w_aload_n rfl rfl ?_
      refine m_geta (t := 0) (k := 2600) rfl rfl ?_
      refine w_iload_n rfl rfl ?_
      refine m_ald rfl (f := 49) (k := 2600) rfl g1 ?_
      refine m_call (as := [vi (s9.2 49 a1)]) (r := []) rfl rfl rfl rfl rfl rfl (wc_mono H (Nat.le_refl _) ?_)
      rintro _ s10 ⟨rfl, H⟩
      show wm iv L h0 (d + 1) 145 150 [lr 307, li a1] [] s10 (qv F)
      refine w_aload_n rfl rfl ?_
      refine w_bipush (n := 93) rfl rfl rfl ?_
      refine m_call (as := [vi 93]) (r := []) rfl rfl rfl rfl rfl rfl (wc_mono H (Nat.le_refl _) ?_)
      rintro _ s11 ⟨rfl, H⟩
      show wm iv L h0 (d + 1) 145 156 [lr 307, li a1] [] s11 (qv F)
      refine w_goto rfl ?_
      exact w_ret rfl rfl ⟨rfl, H⟩
    have J159 : (s.2 46 a1 = 4) → wm iv L h0 (d + 1) 145 159 [lr 307, li a1] [] s (qv F) := fun h => by
      replace H := H.2.2.2.2.1 h
      refine w_aload_n rfl rfl ?_
      refine m_geta (t := 0) (k := 400) rfl rfl ?_
      refine w_aload_n rfl rfl ?_
      refine m_get rfl rfl ?_
      refine w_iload_n rfl rfl ?_
      obtain ⟨g12, H⟩ := H
      refine m_ast rfl (f := 68) (k := 400) rfl g12 ?_
      refine w_aload_n rfl rfl ?_
      refine w_dup rfl rfl ?_
      refine m_get rfl rfl ?_
      show wm iv L h0 (d + 1) 145 174 [lr 307, li a1] [vi (s.1 69), vr 307] (ua s 68 (s.1 69) a1) (qv F)
      refine w_iconst (n := 1) rfl rfl ?_
      obtain ⟨g13, H⟩ := H
      refine w_iadd rfl g13 ?_
      refine m_put rfl rfl rfl ?_
      refine w_aload_n rfl rfl ?_
      refine w_bipush (n := 63) rfl rfl rfl ?_
      refine m_call (as := [vi 63]) (r := []) rfl rfl rfl rfl rfl rfl (wc_mono H (Nat.le_refl _) ?_)
      rintro _ s14 ⟨rfl, H⟩
      show wm iv L h0 (d + 1) 145 185 [lr 307, li a1] [] s14 (qv F)
      refine w_aload_n rfl rfl ?_
      refine w_aload_n rfl rfl ?_
      refine m_geta (t := 0) (k := 2600) rfl rfl ?_
      refine w_iload_n rfl rfl ?_
      refine m_ald rfl (f := 47) (k := 2600) rfl g1 ?_
      refine m_call (as := [vi (s14.2 47 a1)]) (r := []) rfl rfl rfl rfl rfl rfl (wc_mono H (Nat.le_refl _) ?_)
      rintro _ s15 ⟨rfl, H⟩
      show wm iv L h0 (d + 1) 145 195 [lr 307, li a1] [] s15 (qv F)
      refine w_goto rfl ?_
      exact w_ret rfl rfl ⟨rfl, H⟩
    have J198 : (s.2 46 a1 = 5) → wm iv L h0 (d + 1) 145 198 [lr 307, li a1] [] s (qv F) := fun h => by
      replace H := H.2.2.2.2.2.1 h
      refine w_aload_n rfl rfl ?_
      refine w_bipush (n := 33) rfl rfl rfl ?_
      refine m_call (as := [vi 33]) (r := []) rfl rfl rfl rfl rfl rfl (wc_mono H (Nat.le_refl _) ?_)
      rintro _ s16 ⟨rfl, H⟩
      show wm iv L h0 (d + 1) 145 204 [lr 307, li a1] [] s16 (qv F)
      refine w_aload_n rfl rfl ?_
      refine w_bipush (n := 97) rfl rfl rfl ?_
      refine w_aload_n rfl rfl ?_
      refine m_geta (t := 0) (k := 2600) rfl rfl ?_
      refine w_iload_n rfl rfl ?_
      refine m_ald rfl (f := 47) (k := 2600) rfl g1 ?_
      obtain ⟨g17, H⟩ := H
      refine w_iadd rfl g17 ?_
      refine m_call (as := [vi (97 + (s16.2 47 a1))]) (r := []) rfl rfl rfl rfl rfl rfl (wc_mono H (Nat.le_refl _) ?_)
      rintro _ s18 ⟨rfl, H⟩
      show wm iv L h0 (d + 1) 145 217 [lr 307, li a1] [] s18 (qv F)
      refine w_goto rfl ?_
      exact w_ret rfl rfl ⟨rfl, H⟩
    have J220 : (s.2 46 a1 = 6) → wm iv L h0 (d + 1) 145 220 [lr 307, li a1] [] s (qv F) := fun h => by
      replace H := H.2.2.2.2.2.2.1 h
      refine w_aload_n rfl rfl ?_
      refine w_bipush (n := 123) rfl rfl rfl ?_
      refine m_call (as := [vi 123]) (r := []) rfl rfl rfl rfl rfl rfl (wc_mono H (Nat.le_refl _) ?_)
      rintro _ s19 ⟨rfl, H⟩
      show wm iv L h0 (d + 1) 145 226 [lr 307, li a1] [] s19 (qv F)
      refine w_aload_n rfl rfl ?_
      refine w_aload_n rfl rfl ?_
      refine m_geta (t := 0) (k := 2600) rfl rfl ?_
      refine w_iload_n rfl rfl ?_
      refine m_ald rfl (f := 48) (k := 2600) rfl g1 ?_
      refine m_call (as := [vi (s19.2 48 a1)]) (r := []) rfl rfl rfl rfl rfl rfl (wc_mono H (Nat.le_refl _) ?_)
      rintro _ s20 ⟨rfl, H⟩
      show wm iv L h0 (d + 1) 145 236 [lr 307, li a1] [] s20 (qv F)
      refine w_aload_n rfl rfl ?_
      refine w_bipush (n := 125) rfl rfl rfl ?_
      refine m_call (as := [vi 125]) (r := []) rfl rfl rfl rfl rfl rfl (wc_mono H (Nat.le_refl _) ?_)
      rintro _ s21 ⟨rfl, H⟩
      show wm iv L h0 (d + 1) 145 242 [lr 307, li a1] [] s21 (qv F)
      refine w_goto rfl ?_
      exact w_ret rfl rfl ⟨rfl, H⟩
    have J245 : (s.2 46 a1 < 0 ∨ 6 < s.2 46 a1) → wm iv L h0 (d + 1) 145 245 [lr 307, li a1] [] s (qv F) := fun h => by
      replace H := H.2.2.2.2.2.2.2 h
      refine w_aload_n rfl rfl ?_
      refine w_bipush (n := 40) rfl rfl rfl ?_
      refine m_call (as := [vi 40]) (r := []) rfl rfl rfl rfl rfl rfl (wc_mono H (Nat.le_refl _) ?_)
      rintro _ s22 ⟨rfl, H⟩
      show wm iv L h0 (d + 1) 145 251 [lr 307, li a1] [] s22 (qv F)
      refine w_aload_n rfl rfl ?_
      refine w_aload_n rfl rfl ?_
      refine m_geta (t := 0) (k := 3004) rfl rfl ?_
      refine w_aload_n rfl rfl ?_
      refine m_geta (t := 0) (k := 2600) rfl rfl ?_
      refine w_iload_n rfl rfl ?_
      refine m_ald rfl (f := 47) (k := 2600) rfl g1 ?_
      obtain ⟨g23, H⟩ := H
      refine m_ald rfl (f := 9) (k := 3004) rfl g23 ?_
      refine w_static (as := [vi (s22.2 9 (s22.2 47 a1))]) (r := [vr 307]) rfl rfl rfl rfl rfl (wc_mono H (Nat.le_refl _) ?_)
      rintro _ s24 ⟨r25, rfl, H⟩
      show wm iv L h0 (d + 1) 145 266 [lr 307, li a1] [vr r25, vr 307] s24 (qv F)
      refine m_call (as := [vr r25]) (r := []) rfl rfl rfl rfl rfl rfl (wc_mono H (Nat.le_refl _) ?_)
      rintro _ s26 ⟨rfl, H⟩
      show wm iv L h0 (d + 1) 145 269 [lr 307, li a1] [] s26 (qv F)
      refine w_aload_n rfl rfl ?_
      refine w_bipush (n := 32) rfl rfl rfl ?_
      refine m_call (as := [vi 32]) (r := []) rfl rfl rfl rfl rfl rfl (wc_mono H (Nat.le_refl _) ?_)
      rintro _ s27 ⟨rfl, H⟩
      show wm iv L h0 (d + 1) 145 275 [lr 307, li a1] [] s27 (qv F)
      refine w_aload_n rfl rfl ?_
      refine w_aload_n rfl rfl ?_
      refine m_geta (t := 0) (k := 2600) rfl rfl ?_
      refine w_iload_n rfl rfl ?_
      refine m_ald rfl (f := 48) (k := 2600) rfl g1 ?_
      refine m_call (as := [vi (s27.2 48 a1)]) (r := []) rfl rfl rfl rfl rfl rfl (wc_mono H (Nat.le_refl _) ?_)
      rintro _ s28 ⟨rfl, H⟩
      show wm iv L h0 (d + 1) 145 285 [lr 307, li a1] [] s28 (qv F)
      refine w_aload_n rfl rfl ?_
      refine m_geta (t := 0) (k := 2600) rfl rfl ?_
      refine w_iload_n rfl rfl ?_
      refine m_ald rfl (f := 49) (k := 2600) rfl g1 ?_
      refine w_bipush (n := (-9)) rfl rfl rfl ?_
      refine w_icmp_eq rfl (fun h => ?_) (fun h => ?_)
      · replace H := H.1 h
        refine w_aload_n rfl rfl ?_
        refine m_geta (t := 0) (k := 3004) rfl rfl ?_
        refine w_aload_n rfl rfl ?_
        refine m_geta (t := 0) (k := 2600) rfl rfl ?_
        refine w_iload_n rfl rfl ?_
        refine m_ald rfl (f := 47) (k := 2600) rfl g1 ?_
        obtain ⟨g29, H⟩ := H
        refine m_ald rfl (f := 9) (k := 3004) rfl g29 ?_
        refine w_bipush (n := 11) rfl rfl rfl ?_
        refine w_icmp_ne rfl (fun h => ?_) (fun h => ?_)
        · replace H := H.1 h
          refine w_aload_n rfl rfl ?_
          refine w_bipush (n := 41) rfl rfl rfl ?_
          refine m_call (as := [vi 41]) (r := []) rfl rfl rfl rfl rfl rfl (wc_mono H (Nat.le_refl _) ?_)
          rintro _ s30 ⟨rfl, H⟩
          show wm iv L h0 (d + 1) 145 350 [lr 307, li a1] [] s30 (qv F)
          exact w_ret rfl rfl ⟨rfl, H⟩
        · replace H := H.2 h
          refine w_aload_n rfl rfl ?_
          refine w_bipush (n := 32) rfl rfl rfl ?_
          refine m_call (as := [vi 32]) (r := []) rfl rfl rfl rfl rfl rfl (wc_mono H (Nat.le_refl _) ?_)
          rintro _ s31 ⟨rfl, H⟩
          show wm iv L h0 (d + 1) 145 334 [lr 307, li a1] [] s31 (qv F)
          refine w_aload_n rfl rfl ?_
          refine w_aload_n rfl rfl ?_
          refine m_geta (t := 0) (k := 2600) rfl rfl ?_
          refine w_iload_n rfl rfl ?_
          refine m_ald rfl (f := 47) (k := 2600) rfl g1 ?_
          refine m_call (as := [vi (s31.2 47 a1)]) (r := []) rfl rfl rfl rfl rfl rfl (wc_mono H (Nat.le_refl _) ?_)
          rintro _ s32 ⟨rfl, H⟩
          show wm iv L h0 (d + 1) 145 344 [lr 307, li a1] [] s32 (qv F)
          refine w_aload_n rfl rfl ?_
          refine w_bipush (n := 41) rfl rfl rfl ?_
          refine m_call (as := [vi 41]) (r := []) rfl rfl rfl rfl rfl rfl (wc_mono H (Nat.le_refl _) ?_)
          rintro _ s33 ⟨rfl, H⟩
          show wm iv L h0 (d + 1) 145 350 [lr 307, li a1] [] s33 (qv F)
          exact w_ret rfl rfl ⟨rfl, H⟩
      · replace H := H.2 h
        refine w_aload_n rfl rfl ?_
        refine w_bipush (n := 32) rfl rfl rfl ?_
        refine m_call (as := [vi 32]) (r := []) rfl rfl rfl rfl rfl rfl (wc_mono H (Nat.le_refl _) ?_)
        rintro _ s34 ⟨rfl, H⟩
        show wm iv L h0 (d + 1) 145 302 [lr 307, li a1] [] s34 (qv F)
        refine w_aload_n rfl rfl ?_
        refine w_aload_n rfl rfl ?_
        refine m_geta (t := 0) (k := 2600) rfl rfl ?_
        refine w_iload_n rfl rfl ?_
        refine m_ald rfl (f := 49) (k := 2600) rfl g1 ?_
        refine m_call (as := [vi (s34.2 49 a1)]) (r := []) rfl rfl rfl rfl rfl rfl (wc_mono H (Nat.le_refl _) ?_)
        rintro _ s35 ⟨rfl, H⟩
        show wm iv L h0 (d + 1) 145 312 [lr 307, li a1] [] s35 (qv F)
        refine w_aload_n rfl rfl ?_
        refine m_geta (t := 0) (k := 3004) rfl rfl ?_
        refine w_aload_n rfl rfl ?_
        refine m_geta (t := 0) (k := 2600) rfl rfl ?_
        refine w_iload_n rfl rfl ?_
        refine m_ald rfl (f := 47) (k := 2600) rfl g1 ?_
        obtain ⟨g36, H⟩ := H
        refine m_ald rfl (f := 9) (k := 3004) rfl g36 ?_
        refine w_bipush (n := 11) rfl rfl rfl ?_
        refine w_icmp_ne rfl (fun h => ?_) (fun h => ?_)
        · replace H := H.1 h
          refine w_aload_n rfl rfl ?_
          refine w_bipush (n := 41) rfl rfl rfl ?_
          refine m_call (as := [vi 41]) (r := []) rfl rfl rfl rfl rfl rfl (wc_mono H (Nat.le_refl _) ?_)
          rintro _ s37 ⟨rfl, H⟩
          show wm iv L h0 (d + 1) 145 350 [lr 307, li a1] [] s37 (qv F)
          exact w_ret rfl rfl ⟨rfl, H⟩
        · replace H := H.2 h
          refine w_aload_n rfl rfl ?_
          refine w_bipush (n := 32) rfl rfl rfl ?_
          refine m_call (as := [vi 32]) (r := []) rfl rfl rfl rfl rfl rfl (wc_mono H (Nat.le_refl _) ?_)
          rintro _ s38 ⟨rfl, H⟩
          show wm iv L h0 (d + 1) 145 334 [lr 307, li a1] [] s38 (qv F)
          refine w_aload_n rfl rfl ?_
          refine w_aload_n rfl rfl ?_
          refine m_geta (t := 0) (k := 2600) rfl rfl ?_
          refine w_iload_n rfl rfl ?_
          refine m_ald rfl (f := 47) (k := 2600) rfl g1 ?_
          refine m_call (as := [vi (s38.2 47 a1)]) (r := []) rfl rfl rfl rfl rfl rfl (wc_mono H (Nat.le_refl _) ?_)
          rintro _ s39 ⟨rfl, H⟩
          show wm iv L h0 (d + 1) 145 344 [lr 307, li a1] [] s39 (qv F)
          refine w_aload_n rfl rfl ?_
          refine w_bipush (n := 41) rfl rfl rfl ?_
          refine m_call (as := [vi 41]) (r := []) rfl rfl rfl rfl rfl rfl (wc_mono H (Nat.le_refl _) ?_)
          rintro _ s40 ⟨rfl, H⟩
          show wm iv L h0 (d + 1) 145 350 [lr 307, li a1] [] s40 (qv F)
          exact w_ret rfl rfl ⟨rfl, H⟩
    refine w_tsw (td := 245) (ts := [60, 73, 99, 118, 159, 198, 220]) rfl rfl rfl rfl rfl rfl (fun h => J245 (by omega)) ?_
    exact swA_c (fun h => J60 (by omega)) (swA_c (fun h => J73 (by omega)) (swA_c (fun h => J99 (by omega)) (swA_c (fun h => J118 (by omega)) (swA_c (fun h => J159 (by omega)) (swA_c (fun h => J198 (by omega)) (swA_c (fun h => J220 (by omega)) (swA_n)))))))
  · replace H := H.2 h
    exact w_ret rfl rfl ⟨rfl, H⟩

/-- HoleDeskModel.write1(I)V -/
theorem B146 {iv : List (Int × Int)} {L : Nat} {h0 : MH} {d : Nat} {s : SM} {a1 : Int} {F : SM → Prop} (H : cm iv L h0 d 145 [vr 307, vi a1] (us (us s 67 0) 69 0) (qv fun s1 => F s1)) : cm iv L h0 (d + 1) 146 [vr 307, vi a1] s (qv F) := by
  show wm iv L h0 (d + 1) 146 0 [lr 307, li a1] [] s (qv F)
  refine w_aload_n rfl rfl ?_
  refine w_iconst (n := 0) rfl rfl ?_
  refine m_put rfl rfl rfl ?_
  refine w_aload_n rfl rfl ?_
  refine w_iconst (n := 0) rfl rfl ?_
  refine m_put rfl rfl rfl ?_
  refine w_aload_n rfl rfl ?_
  refine w_iload_n rfl rfl ?_
  refine m_call (as := [vi a1]) (r := []) rfl rfl rfl rfl rfl rfl (wc_mono H (Nat.le_refl _) ?_)
  rintro _ s1 ⟨rfl, H⟩
  show wm iv L h0 (d + 1) 146 15 [lr 307, li a1] [] s1 (qv F)
  exact w_ret rfl rfl ⟨rfl, H⟩

/-- HoleDeskModel.hasValue()Z -/
theorem B147 {iv : List (Int × Int)} {L : Nat} {h0 : MH} {d : Nat} {s : SM} {F : Int → SM → Prop} (H : ((s.1 61 = 0 → F 1 s) ∧ (s.1 61 ≠ 0 → ((s.1 61 ≠ 1 → F 0 s) ∧ (s.1 61 = 1 → F 1 s))))) : cm iv L h0 d 147 [vr 307] s (qi F) := by
  show wm iv L h0 d 147 0 [lr 307] [] s (qi F)
  refine w_aload_n rfl rfl ?_
  refine m_get rfl rfl ?_
  refine w_if_eq rfl (fun h => ?_) (fun h => ?_)
  · replace H := H.1 h
    refine w_iconst (n := 1) rfl rfl ?_
    refine w_goto rfl ?_
    exact w_iretz rfl rfl (by decide) ⟨_, rfl, H⟩
  · replace H := H.2 h
    refine w_aload_n rfl rfl ?_
    refine m_get rfl rfl ?_
    refine w_iconst (n := 1) rfl rfl ?_
    refine w_icmp_ne rfl (fun h => ?_) (fun h => ?_)
    · replace H := H.1 h
      refine w_iconst (n := 0) rfl rfl ?_
      exact w_iretz rfl rfl (by decide) ⟨_, rfl, H⟩
    · replace H := H.2 h
      refine w_iconst (n := 1) rfl rfl ?_
      refine w_goto rfl ?_
      exact w_iretz rfl rfl (by decide) ⟨_, rfl, H⟩

/-- HoleDeskModel.value(I)I -/
theorem B148 {iv : List (Int × Int)} {L : Nat} {h0 : MH} {d : Nat} {s : SM} {a1 : Int} {F : Int → SM → Prop} (H : cm iv L h0 d 147 [vr 307] s (qi fun r2 s1 => ((r2 ≠ 0 → cm iv L h0 d 146 [vr 307, vi (s1.1 62)] s1 (qv fun s3 => ((a1 ≠ (-1) → (-2147483648 ≤ (s3.1 67) - 1 ∧ (s3.1 67) - 1 ≤ 2147483647) ∧ ((0 ≤ a1 ∧ a1 ≤ (s3.1 67) - 1 → (0 ≤ a1 ∧ a1 < 400) ∧ F (s3.2 66 a1) s3) ∧ (a1 < 0 ∨ (s3.1 67) - 1 < a1 → F (-9) s3))) ∧ (a1 = (-1) → F (s3.1 67) s3)))) ∧ (r2 = 0 → F (-9) s1)))) : cm iv L h0 (d + 1) 148 [vr 307, vi a1] s (qi F) := by
  show wm iv L h0 (d + 1) 148 0 [lr 307, li a1] [] s (qi F)
  refine w_aload_n rfl rfl ?_
  refine m_call (as := []) (r := []) rfl rfl rfl rfl rfl rfl (wc_mono H (Nat.le_refl _) ?_)
  rintro _ s1 ⟨r2, rfl, H⟩
  show wm iv L h0 (d + 1) 148 4 [lr 307, li a1] [vi r2] s1 (qi F)
  refine w_if_ne rfl (fun h => ?_) (fun h => ?_)
  · replace H := H.1 h
    refine w_aload_n rfl rfl ?_
    refine w_aload_n rfl rfl ?_
    refine m_get rfl rfl ?_
    refine m_call (as := [vi (s1.1 62)]) (r := []) rfl rfl rfl rfl rfl rfl (wc_mono H (Nat.le_refl _) ?_)
    rintro _ s3 ⟨rfl, H⟩
    show wm iv L h0 (d + 1) 148 18 [lr 307, li a1] [] s3 (qi F)
    refine w_iload_n rfl rfl ?_
    refine w_iconst (n := (-1)) rfl rfl ?_
    refine w_icmp_ne rfl (fun h => ?_) (fun h => ?_)
    · replace H := H.1 h
      refine w_iload_n rfl rfl ?_
      refine w_iconst (n := 0) rfl rfl ?_
      refine w_aload_n rfl rfl ?_
      refine m_get rfl rfl ?_
      refine w_iconst (n := 1) rfl rfl ?_
      obtain ⟨g4, H⟩ := H
      refine w_isub rfl g4 ?_
      refine w_static (as := [vi a1, vi 0, vi ((s3.1 67) - 1)]) (r := []) rfl rfl rfl rfl rfl (m_in (fun h => ?_) (fun h => ?_))
      · show wm iv L h0 (d + 1) 148 41 [lr 307, li a1] [vi 1] s3 (qi F)
        replace H := H.1 h
        refine w_if_eq rfl (fun h => absurd h (by decide)) (fun _ => ?_)
        refine w_aload_n rfl rfl ?_
        refine m_geta (t := 1) (k := 400) rfl rfl ?_
        refine w_iload_n rfl rfl ?_
        obtain ⟨g5, H⟩ := H
        refine m_bald (t := 1) rfl (f := 66) (k := 400) rfl g5 ?_
        refine w_goto rfl ?_
        exact w_iret rfl rfl ⟨_, rfl, H⟩
      · show wm iv L h0 (d + 1) 148 41 [lr 307, li a1] [vi 0] s3 (qi F)
        replace H := H.2 h
        refine w_if_eq rfl (fun _ => ?_) (fun h => absurd h (by decide))
        refine w_bipush (n := (-9)) rfl rfl rfl ?_
        exact w_iret rfl rfl ⟨_, rfl, H⟩
    · replace H := H.2 h
      refine w_aload_n rfl rfl ?_
      refine m_get rfl rfl ?_
      refine w_goto rfl ?_
      exact w_iret rfl rfl ⟨_, rfl, H⟩
  · replace H := H.2 h
    refine w_bipush (n := (-9)) rfl rfl rfl ?_
    exact w_iret rfl rfl ⟨_, rfl, H⟩

/-- HoleDeskModel.left(I)I -/
theorem B149 {iv : List (Int × Int)} {L : Nat} {h0 : MH} {d : Nat} {s : SM} {a1 : Int} {F : Int → SM → Prop} (H : cm iv L h0 d 147 [vr 307] s (qi fun r2 s1 => ((r2 ≠ 0 → cm iv L h0 d 146 [vr 307, vi (s1.1 62)] s1 (qv fun s3 => (-2147483648 ≤ (s3.1 69) - 1 ∧ (s3.1 69) - 1 ≤ 2147483647) ∧ ((0 ≤ a1 ∧ a1 ≤ (s3.1 69) - 1 → (0 ≤ a1 ∧ a1 < 400) ∧ (0 ≤ s3.2 68 a1 ∧ s3.2 68 a1 < 2600) ∧ F (s3.2 47 (s3.2 68 a1)) s3) ∧ (a1 < 0 ∨ (s3.1 69) - 1 < a1 → F (-9) s3)))) ∧ (r2 = 0 → F (-9) s1)))) : cm iv L h0 (d + 1) 149 [vr 307, vi a1] s (qi F) := by
  show wm iv L h0 (d + 1) 149 0 [lr 307, li a1] [] s (qi F)
  refine w_aload_n rfl rfl ?_
  refine m_call (as := []) (r := []) rfl rfl rfl rfl rfl rfl (wc_mono H (Nat.le_refl _) ?_)
  rintro _ s1 ⟨r2, rfl, H⟩
  show wm iv L h0 (d + 1) 149 4 [lr 307, li a1] [vi r2] s1 (qi F)
  refine w_if_ne rfl (fun h => ?_) (fun h => ?_)
  · replace H := H.1 h
    refine w_aload_n rfl rfl ?_
    refine w_aload_n rfl rfl ?_
    refine m_get rfl rfl ?_
    refine m_call (as := [vi (s1.1 62)]) (r := []) rfl rfl rfl rfl rfl rfl (wc_mono H (Nat.le_refl _) ?_)
    rintro _ s3 ⟨rfl, H⟩
    show wm iv L h0 (d + 1) 149 18 [lr 307, li a1] [] s3 (qi F)
    refine w_iload_n rfl rfl ?_
    refine w_iconst (n := 0) rfl rfl ?_
    refine w_aload_n rfl rfl ?_
    refine m_get rfl rfl ?_
    refine w_iconst (n := 1) rfl rfl ?_
    obtain ⟨g4, H⟩ := H
    refine w_isub rfl g4 ?_
    refine w_static (as := [vi a1, vi 0, vi ((s3.1 69) - 1)]) (r := []) rfl rfl rfl rfl rfl (m_in (fun h => ?_) (fun h => ?_))
    · show wm iv L h0 (d + 1) 149 29 [lr 307, li a1] [vi 1] s3 (qi F)
      replace H := H.1 h
      refine w_if_eq rfl (fun h => absurd h (by decide)) (fun _ => ?_)
      refine w_aload_n rfl rfl ?_
      refine m_geta (t := 0) (k := 2600) rfl rfl ?_
      refine w_aload_n rfl rfl ?_
      refine m_geta (t := 0) (k := 400) rfl rfl ?_
      refine w_iload_n rfl rfl ?_
      obtain ⟨g5, H⟩ := H
      refine m_ald rfl (f := 68) (k := 400) rfl g5 ?_
      obtain ⟨g6, H⟩ := H
      refine m_ald rfl (f := 47) (k := 2600) rfl g6 ?_
      refine w_goto rfl ?_
      exact w_iret rfl rfl ⟨_, rfl, H⟩
    · show wm iv L h0 (d + 1) 149 29 [lr 307, li a1] [vi 0] s3 (qi F)
      replace H := H.2 h
      refine w_if_eq rfl (fun _ => ?_) (fun h => absurd h (by decide))
      refine w_bipush (n := (-9)) rfl rfl rfl ?_
      exact w_iret rfl rfl ⟨_, rfl, H⟩
  · replace H := H.2 h
    refine w_bipush (n := (-9)) rfl rfl rfl ?_
    exact w_iret rfl rfl ⟨_, rfl, H⟩

/-- HoleDeskModel.seen(III)I -/
theorem B150 {iv : List (Int × Int)} {L : Nat} {h0 : MH} {d : Nat} {s : SM} {a1 : Int} {a2 : Int} {a3 : Int} {F : Int → SM → Prop} (H : ((0 ≤ a2 ∧ a2 ≤ 25 → cm iv L h0 d 147 [vr 307] s (qi fun r2 s1 => ((r2 ≠ 0 → cm iv L h0 d 146 [vr 307, vi (s1.1 62)] s1 (qv fun s3 => (-2147483648 ≤ (s3.1 69) - 1 ∧ (s3.1 69) - 1 ≤ 2147483647) ∧ ((0 ≤ a1 ∧ a1 ≤ (s3.1 69) - 1 → (0 ≤ a1 ∧ a1 < 400) ∧ (0 ≤ s3.2 68 a1 ∧ s3.2 68 a1 < 2600) ∧ (-2147483648 ≤ 26 * (s3.2 50 (s3.2 68 a1)) ∧ 26 * (s3.2 50 (s3.2 68 a1)) ≤ 2147483647) ∧ (-2147483648 ≤ (26 * (s3.2 50 (s3.2 68 a1))) + a2 ∧ (26 * (s3.2 50 (s3.2 68 a1))) + a2 ≤ 2147483647) ∧ (0 ≤ (26 * (s3.2 50 (s3.2 68 a1))) + a2 ∧ (26 * (s3.2 50 (s3.2 68 a1))) + a2 < 33280) ∧ ((s3.2 53 ((26 * (s3.2 50 (s3.2 68 a1))) + a2) ≠ (-9) → cm iv L h0 d 146 [vr 307, vi (s3.2 53 ((26 * (s3.2 50 (s3.2 68 a1))) + a2))] s3 (qv fun s10 => ((a3 ≠ (-1) → (-2147483648 ≤ (s10.1 67) - 1 ∧ (s10.1 67) - 1 ≤ 2147483647) ∧ ((0 ≤ a3 ∧ a3 ≤ (s10.1 67) - 1 → (0 ≤ a3 ∧ a3 < 400) ∧ F (s10.2 66 a3) s10) ∧ (a3 < 0 ∨ (s10.1 67) - 1 < a3 → F (-9) s10))) ∧ (a3 = (-1) → F (s10.1 67) s10)))) ∧ (s3.2 53 ((26 * (s3.2 50 (s3.2 68 a1))) + a2) = (-9) → F (-9) s3))) ∧ (a1 < 0 ∨ (s3.1 69) - 1 < a1 → F (-9) s3)))) ∧ (r2 = 0 → F (-9) s1)))) ∧ (a2 < 0 ∨ 25 < a2 → F (-1) s))) : cm iv L h0 (d + 1) 150 [vr 307, vi a1, vi a2, vi a3] s (qi F) := by
  show wm iv L h0 (d + 1) 150 0 [lr 307, li a1, li a2, li a3] [] s (qi F)
  refine w_iload_n rfl rfl ?_
  refine w_iconst (n := 0) rfl rfl ?_
  refine w_bipush (n := 25) rfl rfl rfl ?_
  refine w_static (as := [vi a2, vi 0, vi 25]) (r := []) rfl rfl rfl rfl rfl (m_in (fun h => ?_) (fun h => ?_))
  · show wm iv L h0 (d + 1) 150 7 [lr 307, li a1, li a2, li a3] [vi 1] s (qi F)
    replace H := H.1 h
    refine w_if_ne rfl (fun _ => ?_) (fun h => absurd h (by decide))
    refine w_aload_n rfl rfl ?_
    refine m_call (as := []) (r := []) rfl rfl rfl rfl rfl rfl (wc_mono H (Nat.le_refl _) ?_)
    rintro _ s1 ⟨r2, rfl, H⟩
    show wm iv L h0 (d + 1) 150 16 [lr 307, li a1, li a2, li a3] [vi r2] s1 (qi F)
    refine w_if_ne rfl (fun h => ?_) (fun h => ?_)
    · replace H := H.1 h
      refine w_aload_n rfl rfl ?_
      refine w_aload_n rfl rfl ?_
      refine m_get rfl rfl ?_
      refine m_call (as := [vi (s1.1 62)]) (r := []) rfl rfl rfl rfl rfl rfl (wc_mono H (Nat.le_refl _) ?_)
      rintro _ s3 ⟨rfl, H⟩
      show wm iv L h0 (d + 1) 150 30 [lr 307, li a1, li a2, li a3] [] s3 (qi F)
      refine w_iload_n rfl rfl ?_
      refine w_iconst (n := 0) rfl rfl ?_
      refine w_aload_n rfl rfl ?_
      refine m_get rfl rfl ?_
      refine w_iconst (n := 1) rfl rfl ?_
      obtain ⟨g4, H⟩ := H
      refine w_isub rfl g4 ?_
      refine w_static (as := [vi a1, vi 0, vi ((s3.1 69) - 1)]) (r := []) rfl rfl rfl rfl rfl (m_in (fun h => ?_) (fun h => ?_))
      · show wm iv L h0 (d + 1) 150 41 [lr 307, li a1, li a2, li a3] [vi 1] s3 (qi F)
        replace H := H.1 h
        refine w_if_ne rfl (fun _ => ?_) (fun h => absurd h (by decide))
        refine w_aload_n rfl rfl ?_
        refine m_geta (t := 0) (k := 33280) rfl rfl ?_
        refine w_bipush (n := 26) rfl rfl rfl ?_
        refine w_aload_n rfl rfl ?_
        refine m_geta (t := 0) (k := 2600) rfl rfl ?_
        refine w_aload_n rfl rfl ?_
        refine m_geta (t := 0) (k := 400) rfl rfl ?_
        refine w_iload_n rfl rfl ?_
        obtain ⟨g5, H⟩ := H
        refine m_ald rfl (f := 68) (k := 400) rfl g5 ?_
        obtain ⟨g6, H⟩ := H
        refine m_ald rfl (f := 50) (k := 2600) rfl g6 ?_
        obtain ⟨g7, H⟩ := H
        refine w_imul rfl g7 ?_
        refine w_iload_n rfl rfl ?_
        obtain ⟨g8, H⟩ := H
        refine w_iadd rfl g8 ?_
        obtain ⟨g9, H⟩ := H
        refine m_ald rfl (f := 53) (k := 33280) rfl g9 ?_
        refine w_istore rfl rfl ?_
        refine w_iload rfl rfl ?_
        refine w_bipush (n := (-9)) rfl rfl rfl ?_
        refine w_icmp_ne rfl (fun h => ?_) (fun h => ?_)
        · replace H := H.1 h
          refine w_aload_n rfl rfl ?_
          refine w_iload rfl rfl ?_
          refine m_call (as := [vi (s3.2 53 ((26 * (s3.2 50 (s3.2 68 a1))) + a2))]) (r := []) rfl rfl rfl rfl rfl rfl (wc_mono H (Nat.le_refl _) ?_)
          rintro _ s10 ⟨rfl, H⟩
          show wm iv L h0 (d + 1) 150 86 [lr 307, li a1, li a2, li a3, li (s3.2 53 ((26 * (s3.2 50 (s3.2 68 a1))) + a2))] [] s10 (qi F)
          refine w_iload_n rfl rfl ?_
          refine w_iconst (n := (-1)) rfl rfl ?_
          refine w_icmp_ne rfl (fun h => ?_) (fun h => ?_)
          · replace H := H.1 h
            refine w_iload_n rfl rfl ?_
            refine w_iconst (n := 0) rfl rfl ?_
            refine w_aload_n rfl rfl ?_
            refine m_get rfl rfl ?_
            refine w_iconst (n := 1) rfl rfl ?_
            obtain ⟨g11, H⟩ := H
            refine w_isub rfl g11 ?_
            refine w_static (as := [vi a3, vi 0, vi ((s10.1 67) - 1)]) (r := []) rfl rfl rfl rfl rfl (m_in (fun h => ?_) (fun h => ?_))
            · show wm iv L h0 (d + 1) 150 109 [lr 307, li a1, li a2, li a3, li (s3.2 53 ((26 * (s3.2 50 (s3.2 68 a1))) + a2))] [vi 1] s10 (qi F)
              replace H := H.1 h
              refine w_if_eq rfl (fun h => absurd h (by decide)) (fun _ => ?_)
              refine w_aload_n rfl rfl ?_
              refine m_geta (t := 1) (k := 400) rfl rfl ?_
              refine w_iload_n rfl rfl ?_
              obtain ⟨g12, H⟩ := H
              refine m_bald (t := 1) rfl (f := 66) (k := 400) rfl g12 ?_
              refine w_goto rfl ?_
              exact w_iret rfl rfl ⟨_, rfl, H⟩
            · show wm iv L h0 (d + 1) 150 109 [lr 307, li a1, li a2, li a3, li (s3.2 53 ((26 * (s3.2 50 (s3.2 68 a1))) + a2))] [vi 0] s10 (qi F)
              replace H := H.2 h
              refine w_if_eq rfl (fun _ => ?_) (fun h => absurd h (by decide))
              refine w_bipush (n := (-9)) rfl rfl rfl ?_
              exact w_iret rfl rfl ⟨_, rfl, H⟩
          · replace H := H.2 h
            refine w_aload_n rfl rfl ?_
            refine m_get rfl rfl ?_
            refine w_goto rfl ?_
            exact w_iret rfl rfl ⟨_, rfl, H⟩
        · replace H := H.2 h
          refine w_bipush (n := (-9)) rfl rfl rfl ?_
          exact w_iret rfl rfl ⟨_, rfl, H⟩
      · show wm iv L h0 (d + 1) 150 41 [lr 307, li a1, li a2, li a3] [vi 0] s3 (qi F)
        replace H := H.2 h
        refine w_if_ne rfl (fun h => absurd h (by decide)) (fun _ => ?_)
        refine w_bipush (n := (-9)) rfl rfl rfl ?_
        exact w_iret rfl rfl ⟨_, rfl, H⟩
    · replace H := H.2 h
      refine w_bipush (n := (-9)) rfl rfl rfl ?_
      exact w_iret rfl rfl ⟨_, rfl, H⟩
  · show wm iv L h0 (d + 1) 150 7 [lr 307, li a1, li a2, li a3] [vi 0] s (qi F)
    replace H := H.2 h
    refine w_if_ne rfl (fun h => absurd h (by decide)) (fun _ => ?_)
    refine w_iconst (n := (-1)) rfl rfl ?_
    exact w_iret rfl rfl ⟨_, rfl, H⟩

/-- HoleDeskModel.box(I)I -/
theorem B151 {iv : List (Int × Int)} {L : Nat} {h0 : MH} {d : Nat} {s : SM} {a1 : Int} {F : Int → SM → Prop} (H : ((a1 ≤ 8 → ((0 ≤ a1 → wm iv L h0 (d + 1) 151 25 [lr 307, li a1, li 0] [] (us s 71 a1) (qi F)) ∧ (a1 < 0 → cm iv L h0 d 61 [vr 307, vi 5] s (qi fun r2 s1 => F r2 s1)))) ∧ (8 < a1 → F (-1) s))) : cm iv L h0 (d + 1) 151 [vr 307, vi a1] s (qi F) := by
  show wm iv L h0 (d + 1) 151 0 [lr 307, li a1] [] s (qi F)
  refine w_iload_n rfl rfl ?_
  refine w_bipush (n := 8) rfl rfl rfl ?_
  refine w_icmp_le rfl (fun h => ?_) (fun h => ?_)
  · replace H := H.1 h
    refine w_iload_n rfl rfl ?_
    refine w_if_ge rfl (fun h => ?_) (fun h => ?_)
    · replace H := H.1 h
      refine w_aload_n rfl rfl ?_
      refine w_iload_n rfl rfl ?_
      refine m_put rfl rfl rfl ?_
      refine w_iconst (n := 0) rfl rfl ?_
      refine w_istore_n rfl rfl ?_
      exact wp_ls (sl_s (sl_s (sl_s (sl_0)))) H
    · replace H := H.2 h
      refine w_aload_n rfl rfl ?_
      refine w_iconst (n := 5) rfl rfl ?_
      refine m_call (as := [vi 5]) (r := []) rfl rfl rfl rfl rfl rfl (wc_mono H (Nat.le_refl _) ?_)
      rintro _ s1 ⟨r2, rfl, H⟩
      show wm iv L h0 (d + 1) 151 17 [lr 307, li a1] [vi r2] s1 (qi F)
      exact w_iret rfl rfl ⟨_, rfl, H⟩
  · replace H := H.2 h
    refine w_iconst (n := (-1)) rfl rfl ?_
    exact w_iret rfl rfl ⟨_, rfl, H⟩

/-- HoleDeskModel.box(I)I at 25 -/
theorem B151_25 {iv : List (Int × Int)} {L : Nat} {h0 : MH} {d : Nat} {s : SM} {l1 : Int} {l2 : Int} {F : Int → SM → Prop} (H : ((8 ≤ l2 → F l1 s) ∧ (l2 < 8 → (0 ≤ l2 ∧ l2 < 8) ∧ (-2147483648 ≤ l2 + 1 ∧ l2 + 1 ≤ 2147483647) ∧ wm iv L h0 (d + 1) 151 25 [lr 307, li l1, li (l2 + 1)] [] (ua s 72 l2 0) (qi F)))) : wm iv L h0 (d + 1) 151 25 [lr 307, li l1, li l2] [] s (qi F) := by
  refine w_iload_n rfl rfl ?_
  refine w_bipush (n := 8) rfl rfl rfl ?_
  refine w_icmp_ge rfl (fun h => ?_) (fun h => ?_)
  · replace H := H.1 h
    refine w_iload_n rfl rfl ?_
    exact w_iret rfl rfl ⟨_, rfl, H⟩
  · replace H := H.2 h
    refine w_aload_n rfl rfl ?_
    refine m_geta (t := 0) (k := 8) rfl rfl ?_
    refine w_iload_n rfl rfl ?_
    refine w_iconst (n := 0) rfl rfl ?_
    obtain ⟨g1, H⟩ := H
    refine m_ast rfl (f := 72) (k := 8) rfl g1 ?_
    obtain ⟨g2, H⟩ := H
    refine w_iinc rfl rfl rfl g2 ?_
    refine w_goto rfl ?_
    exact wp_ls (sl_s (sl_s (sl_s (sl_0)))) H

/-- HoleDeskModel.keep(II)I -/
theorem B152 {iv : List (Int × Int)} {L : Nat} {h0 : MH} {d : Nat} {s : SM} {a1 : Int} {a2 : Int} {F : Int → SM → Prop} (H : cm iv L h0 d 80 [vr 307, vi a2] s (qi fun r2 s1 => ((r2 ≠ 0 → (-2147483648 ≤ (s1.1 71) - 1 ∧ (s1.1 71) - 1 ≤ 2147483647) ∧ ((0 ≤ a1 ∧ a1 ≤ (s1.1 71) - 1 → (-2147483648 ≤ a2 + 1 ∧ a2 + 1 ≤ 2147483647) ∧ (0 ≤ a1 ∧ a1 < 8) ∧ F 1 (ua s1 72 a1 (a2 + 1))) ∧ (a1 < 0 ∨ (s1.1 71) - 1 < a1 → cm iv L h0 d 61 [vr 307, vi 2] s1 (qi fun r7 s6 => F r7 s6)))) ∧ (r2 = 0 → F (-1) s1)))) : cm iv L h0 (d + 1) 152 [vr 307, vi a1, vi a2] s (qi F) := by
  show wm iv L h0 (d + 1) 152 0 [lr 307, li a1, li a2] [] s (qi F)
  refine w_aload_n rfl rfl ?_
  refine w_iload_n rfl rfl ?_
  refine m_call (as := [vi a2]) (r := []) rfl rfl rfl rfl rfl rfl (wc_mono H (Nat.le_refl _) ?_)
  rintro _ s1 ⟨r2, rfl, H⟩
  show wm iv L h0 (d + 1) 152 5 [lr 307, li a1, li a2] [vi r2] s1 (qi F)
  refine w_if_ne rfl (fun h => ?_) (fun h => ?_)
  · replace H := H.1 h
    refine w_iload_n rfl rfl ?_
    refine w_iconst (n := 0) rfl rfl ?_
    refine w_aload_n rfl rfl ?_
    refine m_get rfl rfl ?_
    refine w_iconst (n := 1) rfl rfl ?_
    obtain ⟨g3, H⟩ := H
    refine w_isub rfl g3 ?_
    refine w_static (as := [vi a1, vi 0, vi ((s1.1 71) - 1)]) (r := []) rfl rfl rfl rfl rfl (m_in (fun h => ?_) (fun h => ?_))
    · show wm iv L h0 (d + 1) 152 21 [lr 307, li a1, li a2] [vi 1] s1 (qi F)
      replace H := H.1 h
      refine w_if_ne rfl (fun _ => ?_) (fun h => absurd h (by decide))
      refine w_aload_n rfl rfl ?_
      refine m_geta (t := 0) (k := 8) rfl rfl ?_
      refine w_iload_n rfl rfl ?_
      refine w_iload_n rfl rfl ?_
      refine w_iconst (n := 1) rfl rfl ?_
      obtain ⟨g4, H⟩ := H
      refine w_iadd rfl g4 ?_
      obtain ⟨g5, H⟩ := H
      refine m_ast rfl (f := 72) (k := 8) rfl g5 ?_
      refine w_iconst (n := 1) rfl rfl ?_
      exact w_iret rfl rfl ⟨_, rfl, H⟩
    · show wm iv L h0 (d + 1) 152 21 [lr 307, li a1, li a2] [vi 0] s1 (qi F)
      replace H := H.2 h
      refine w_if_ne rfl (fun h => absurd h (by decide)) (fun _ => ?_)
      refine w_aload_n rfl rfl ?_
      refine w_iconst (n := 2) rfl rfl ?_
      refine m_call (as := [vi 2]) (r := []) rfl rfl rfl rfl rfl rfl (wc_mono H (Nat.le_refl _) ?_)
      rintro _ s6 ⟨r7, rfl, H⟩
      show wm iv L h0 (d + 1) 152 29 [lr 307, li a1, li a2] [vi r7] s6 (qi F)
      exact w_iret rfl rfl ⟨_, rfl, H⟩
  · replace H := H.2 h
    refine w_iconst (n := (-1)) rfl rfl ?_
    exact w_iret rfl rfl ⟨_, rfl, H⟩

/-- HoleDeskModel.lacks(II)I -/
theorem B153 {iv : List (Int × Int)} {L : Nat} {h0 : MH} {d : Nat} {s : SM} {a1 : Int} {a2 : Int} {F : Int → SM → Prop} (H : (-2147483648 ≤ (s.1 71) - 1 ∧ (s.1 71) - 1 ≤ 2147483647) ∧ ((0 ≤ a1 ∧ a1 ≤ (s.1 71) - 1 → (0 ≤ a1 ∧ a1 < 8) ∧ ((s.2 72 a1 ≠ 0 → (-2147483648 ≤ (s.2 72 a1) - 1 ∧ (s.2 72 a1) - 1 ≤ 2147483647) ∧ (0 ≤ (s.2 72 a1) - 1 ∧ (s.2 72 a1) - 1 < 3004) ∧ ((s.2 9 ((s.2 72 a1) - 1) = a2 → F 0 s) ∧ (s.2 9 ((s.2 72 a1) - 1) ≠ a2 → F 3 s))) ∧ (s.2 72 a1 = 0 → F 1 s))) ∧ (a1 < 0 ∨ (s.1 71) - 1 < a1 → F 2 s))) : cm iv L h0 (d + 1) 153 [vr 307, vi a1, vi a2] s (qi F) := by
  show wm iv L h0 (d + 1) 153 0 [lr 307, li a1, li a2] [] s (qi F)
  refine w_iload_n rfl rfl ?_
  refine w_iconst (n := 0) rfl rfl ?_
  refine w_aload_n rfl rfl ?_
  refine m_get rfl rfl ?_
  refine w_iconst (n := 1) rfl rfl ?_
  obtain ⟨g1, H⟩ := H
  refine w_isub rfl g1 ?_
  refine w_static (as := [vi a1, vi 0, vi ((s.1 71) - 1)]) (r := []) rfl rfl rfl rfl rfl (m_in (fun h => ?_) (fun h => ?_))
  · show wm iv L h0 (d + 1) 153 11 [lr 307, li a1, li a2] [vi 1] s (qi F)
    replace H := H.1 h
    refine w_if_ne rfl (fun _ => ?_) (fun h => absurd h (by decide))
    refine w_aload_n rfl rfl ?_
    refine m_geta (t := 0) (k := 8) rfl rfl ?_
    refine w_iload_n rfl rfl ?_
    obtain ⟨g2, H⟩ := H
    refine m_ald rfl (f := 72) (k := 8) rfl g2 ?_
    refine w_if_ne rfl (fun h => ?_) (fun h => ?_)
    · replace H := H.1 h
      refine w_aload_n rfl rfl ?_
      refine m_geta (t := 0) (k := 3004) rfl rfl ?_
      refine w_aload_n rfl rfl ?_
      refine m_geta (t := 0) (k := 8) rfl rfl ?_
      refine w_iload_n rfl rfl ?_
      refine m_ald rfl (f := 72) (k := 8) rfl g2 ?_
      refine w_iconst (n := 1) rfl rfl ?_
      obtain ⟨g3, H⟩ := H
      refine w_isub rfl g3 ?_
      obtain ⟨g4, H⟩ := H
      refine m_ald rfl (f := 9) (k := 3004) rfl g4 ?_
      refine w_iload_n rfl rfl ?_
      refine w_icmp_eq rfl (fun h => ?_) (fun h => ?_)
      · replace H := H.1 h
        refine w_iconst (n := 0) rfl rfl ?_
        exact w_iret rfl rfl ⟨_, rfl, H⟩
      · replace H := H.2 h
        refine w_iconst (n := 3) rfl rfl ?_
        refine w_goto rfl ?_
        exact w_iret rfl rfl ⟨_, rfl, H⟩
    · replace H := H.2 h
      refine w_iconst (n := 1) rfl rfl ?_
      refine w_goto rfl ?_
      exact w_iret rfl rfl ⟨_, rfl, H⟩
  · show wm iv L h0 (d + 1) 153 11 [lr 307, li a1, li a2] [vi 0] s (qi F)
    replace H := H.2 h
    refine w_if_ne rfl (fun h => absurd h (by decide)) (fun _ => ?_)
    refine w_iconst (n := 2) rfl rfl ?_
    refine w_goto rfl ?_
    exact w_iret rfl rfl ⟨_, rfl, H⟩

/-- HoleDeskModel.boxed(II)I -/
theorem B154 {iv : List (Int × Int)} {L : Nat} {h0 : MH} {d : Nat} {s : SM} {a1 : Int} {a2 : Int} {F : Int → SM → Prop} (H : ((a2 = 1 → cm iv L h0 d 153 [vr 307, vi a1, vi a2] s (qi fun r2 s1 => ((r2 ≤ 0 → (0 ≤ a1 ∧ a1 < 8) ∧ (-2147483648 ≤ (s1.2 72 a1) - 1 ∧ (s1.2 72 a1) - 1 ≤ 2147483647) ∧ (0 ≤ (s1.2 72 a1) - 1 ∧ (s1.2 72 a1) - 1 < 3004) ∧ F 1 (us s1 73 (s1.2 10 ((s1.2 72 a1) - 1)))) ∧ (0 < r2 → cm iv L h0 d 61 [vr 307, vi r2] s1 (qi fun r7 s6 => F r7 s6))))) ∧ (a2 ≠ 1 → ((a2 = 3 → cm iv L h0 d 153 [vr 307, vi a1, vi a2] s (qi fun r9 s8 => ((r9 ≤ 0 → (0 ≤ a1 ∧ a1 < 8) ∧ (-2147483648 ≤ (s8.2 72 a1) - 1 ∧ (s8.2 72 a1) - 1 ≤ 2147483647) ∧ (0 ≤ (s8.2 72 a1) - 1 ∧ (s8.2 72 a1) - 1 < 3004) ∧ F 1 (us s8 73 (s8.2 10 ((s8.2 72 a1) - 1)))) ∧ (0 < r9 → cm iv L h0 d 61 [vr 307, vi r9] s8 (qi fun r14 s13 => F r14 s13))))) ∧ (a2 ≠ 3 → F (-1) s))))) : cm iv L h0 (d + 1) 154 [vr 307, vi a1, vi a2] s (qi F) := by
  show wm iv L h0 (d + 1) 154 0 [lr 307, li a1, li a2] [] s (qi F)
  refine w_iload_n rfl rfl ?_
  refine w_iconst (n := 1) rfl rfl ?_
  refine w_icmp_eq rfl (fun h => ?_) (fun h => ?_)
  · replace H := H.1 h
    refine w_aload_n rfl rfl ?_
    refine w_iload_n rfl rfl ?_
    refine w_iload_n rfl rfl ?_
    refine m_call (as := [vi a1, vi a2]) (r := []) rfl rfl rfl rfl rfl rfl (wc_mono H (Nat.le_refl _) ?_)
    rintro _ s1 ⟨r2, rfl, H⟩
    show wm iv L h0 (d + 1) 154 18 [lr 307, li a1, li a2] [vi r2] s1 (qi F)
    refine w_istore_n rfl rfl ?_
    refine w_iload_n rfl rfl ?_
    refine w_if_le rfl (fun h => ?_) (fun h => ?_)
    · replace H := H.1 h
      refine w_aload_n rfl rfl ?_
      refine w_aload_n rfl rfl ?_
      refine m_geta (t := 0) (k := 3004) rfl rfl ?_
      refine w_aload_n rfl rfl ?_
      refine m_geta (t := 0) (k := 8) rfl rfl ?_
      refine w_iload_n rfl rfl ?_
      obtain ⟨g3, H⟩ := H
      refine m_ald rfl (f := 72) (k := 8) rfl g3 ?_
      refine w_iconst (n := 1) rfl rfl ?_
      obtain ⟨g4, H⟩ := H
      refine w_isub rfl g4 ?_
      obtain ⟨g5, H⟩ := H
      refine m_ald rfl (f := 10) (k := 3004) rfl g5 ?_
      refine m_put rfl rfl rfl ?_
      refine w_iconst (n := 1) rfl rfl ?_
      exact w_iret rfl rfl ⟨_, rfl, H⟩
    · replace H := H.2 h
      refine w_aload_n rfl rfl ?_
      refine w_iload_n rfl rfl ?_
      refine m_call (as := [vi r2]) (r := []) rfl rfl rfl rfl rfl rfl (wc_mono H (Nat.le_refl _) ?_)
      rintro _ s6 ⟨r7, rfl, H⟩
      show wm iv L h0 (d + 1) 154 28 [lr 307, li a1, li a2, li r2] [vi r7] s6 (qi F)
      exact w_iret rfl rfl ⟨_, rfl, H⟩
  · replace H := H.2 h
    refine w_iload_n rfl rfl ?_
    refine w_iconst (n := 3) rfl rfl ?_
    refine w_icmp_eq rfl (fun h => ?_) (fun h => ?_)
    · replace H := H.1 h
      refine w_aload_n rfl rfl ?_
      refine w_iload_n rfl rfl ?_
      refine w_iload_n rfl rfl ?_
      refine m_call (as := [vi a1, vi a2]) (r := []) rfl rfl rfl rfl rfl rfl (wc_mono H (Nat.le_refl _) ?_)
      rintro _ s8 ⟨r9, rfl, H⟩
      show wm iv L h0 (d + 1) 154 18 [lr 307, li a1, li a2] [vi r9] s8 (qi F)
      refine w_istore_n rfl rfl ?_
      refine w_iload_n rfl rfl ?_
      refine w_if_le rfl (fun h => ?_) (fun h => ?_)
      · replace H := H.1 h
        refine w_aload_n rfl rfl ?_
        refine w_aload_n rfl rfl ?_
        refine m_geta (t := 0) (k := 3004) rfl rfl ?_
        refine w_aload_n rfl rfl ?_
        refine m_geta (t := 0) (k := 8) rfl rfl ?_
        refine w_iload_n rfl rfl ?_
        obtain ⟨g10, H⟩ := H
        refine m_ald rfl (f := 72) (k := 8) rfl g10 ?_
        refine w_iconst (n := 1) rfl rfl ?_
        obtain ⟨g11, H⟩ := H
        refine w_isub rfl g11 ?_
        obtain ⟨g12, H⟩ := H
        refine m_ald rfl (f := 10) (k := 3004) rfl g12 ?_
        refine m_put rfl rfl rfl ?_
        refine w_iconst (n := 1) rfl rfl ?_
        exact w_iret rfl rfl ⟨_, rfl, H⟩
      · replace H := H.2 h
        refine w_aload_n rfl rfl ?_
        refine w_iload_n rfl rfl ?_
        refine m_call (as := [vi r9]) (r := []) rfl rfl rfl rfl rfl rfl (wc_mono H (Nat.le_refl _) ?_)
        rintro _ s13 ⟨r14, rfl, H⟩
        show wm iv L h0 (d + 1) 154 28 [lr 307, li a1, li a2, li r9] [vi r14] s13 (qi F)
        exact w_iret rfl rfl ⟨_, rfl, H⟩
    · replace H := H.2 h
      refine w_iconst (n := (-1)) rfl rfl ?_
      exact w_iret rfl rfl ⟨_, rfl, H⟩

/-- HoleDeskModel.share(II)I -/
theorem B155 {iv : List (Int × Int)} {L : Nat} {h0 : MH} {d : Nat} {s : SM} {a1 : Int} {a2 : Int} {F : Int → SM → Prop} (H : cm iv L h0 d 153 [vr 307, vi a1, vi 1] s (qi fun r2 s1 => cm iv L h0 d 153 [vr 307, vi a2, vi 1] s1 (qi fun r4 s3 => wm iv L h0 (d + 1) 155 18 [lr 307, li a1, li a2, li r2, li r4, li 1] [] s3 (qi F)))) : cm iv L h0 (d + 1) 155 [vr 307, vi a1, vi a2] s (qi F) := by
  show wm iv L h0 (d + 1) 155 0 [lr 307, li a1, li a2] [] s (qi F)
  refine w_aload_n rfl rfl ?_
  refine w_iload_n rfl rfl ?_
  refine w_iconst (n := 1) rfl rfl ?_
  refine m_call (as := [vi a1, vi 1]) (r := []) rfl rfl rfl rfl rfl rfl (wc_mono H (Nat.le_refl _) ?_)
  rintro _ s1 ⟨r2, rfl, H⟩
  show wm iv L h0 (d + 1) 155 6 [lr 307, li a1, li a2] [vi r2] s1 (qi F)
  refine w_istore_n rfl rfl ?_
  refine w_aload_n rfl rfl ?_
  refine w_iload_n rfl rfl ?_
  refine w_iconst (n := 1) rfl rfl ?_
  refine m_call (as := [vi a2, vi 1]) (r := []) rfl rfl rfl rfl rfl rfl (wc_mono H (Nat.le_refl _) ?_)
  rintro _ s3 ⟨r4, rfl, H⟩
  show wm iv L h0 (d + 1) 155 13 [lr 307, li a1, li a2, li r2] [vi r4] s3 (qi F)
  refine w_istore rfl rfl ?_
  refine w_iconst (n := 1) rfl rfl ?_
  refine w_istore rfl rfl ?_
  exact wp_ls (sl_s (sl_s (sl_s (sl_s (sl_s (sl_s (sl_0))))))) H

/-- HoleDeskModel.share(II)I at 18 -/
theorem B155_18 {iv : List (Int × Int)} {L : Nat} {h0 : MH} {d : Nat} {s : SM} {l1 : Int} {l2 : Int} {l3 : Int} {l4 : Int} {l5 : Int} {F : Int → SM → Prop} (H : ((4 ≤ l5 → (0 ≤ l2 ∧ l2 < 8) ∧ (-2147483648 ≤ (s.2 72 l2) - 1 ∧ (s.2 72 l2) - 1 ≤ 2147483647) ∧ (0 ≤ (s.2 72 l2) - 1 ∧ (s.2 72 l2) - 1 < 3004) ∧ ((s.2 10 ((s.2 72 l2) - 1) ≠ 0 → (0 ≤ l1 ∧ l1 < 8) ∧ (-2147483648 ≤ (s.2 72 l1) - 1 ∧ (s.2 72 l1) - 1 ≤ 2147483647) ∧ (0 ≤ (s.2 72 l1) - 1 ∧ (s.2 72 l1) - 1 < 3004) ∧ ((s.2 10 ((s.2 72 l2) - 1) ≠ (-1) → (s.2 10 ((s.2 72 l2) - 1) ≠ 0) ∧ (-2147483648 ≤ (w32 (1000 * (s.2 10 ((s.2 72 l1) - 1)))).tdiv (s.2 10 ((s.2 72 l2) - 1)) ∧ (w32 (1000 * (s.2 10 ((s.2 72 l1) - 1)))).tdiv (s.2 10 ((s.2 72 l2) - 1)) ≤ 2147483647) ∧ F 1 (us s 73 ((w32 (1000 * (s.2 10 ((s.2 72 l1) - 1)))).tdiv (s.2 10 ((s.2 72 l2) - 1))))) ∧ (s.2 10 ((s.2 72 l2) - 1) = (-1) → F 1 (us s 73 (w32 (-(w32 (1000 * (s.2 10 ((s.2 72 l1) - 1)))))))))) ∧ (s.2 10 ((s.2 72 l2) - 1) = 0 → cm iv L h0 d 61 [vr 307, vi 4] s (qi fun r10 s9 => F r10 s9)))) ∧ (l5 < 4 → ((l5 ≠ 1 → ((l5 ≠ 2 → ((l3 = 3 → cm iv L h0 d 61 [vr 307, vi 3] s (qi fun r12 s11 => F r12 s11)) ∧ (l3 ≠ 3 → ((l4 ≠ 3 → (-2147483648 ≤ l5 + 1 ∧ l5 + 1 ≤ 2147483647) ∧ wm iv L h0 (d + 1) 155 18 [lr 307, li l1, li l2, li l3, li l4, li (l5 + 1)] [] s (qi F)) ∧ (l4 = 3 → cm iv L h0 d 61 [vr 307, vi 3] s (qi fun r15 s14 => F r15 s14)))))) ∧ (l5 = 2 → ((l3 = 1 → cm iv L h0 d 61 [vr 307, vi 1] s (qi fun r17 s16 => F r17 s16)) ∧ (l3 ≠ 1 → ((l4 ≠ 1 → (-2147483648 ≤ l5 + 1 ∧ l5 + 1 ≤ 2147483647) ∧ wm iv L h0 (d + 1) 155 18 [lr 307, li l1, li l2, li l3, li l4, li (l5 + 1)] [] s (qi F)) ∧ (l4 = 1 → cm iv L h0 d 61 [vr 307, vi 1] s (qi fun r20 s19 => F r20 s19)))))))) ∧ (l5 = 1 → ((l3 = 2 → cm iv L h0 d 61 [vr 307, vi 2] s (qi fun r22 s21 => F r22 s21)) ∧ (l3 ≠ 2 → ((l4 ≠ 2 → (-2147483648 ≤ l5 + 1 ∧ l5 + 1 ≤ 2147483647) ∧ wm iv L h0 (d + 1) 155 18 [lr 307, li l1, li l2, li l3, li l4, li (l5 + 1)] [] s (qi F)) ∧ (l4 = 2 → cm iv L h0 d 61 [vr 307, vi 2] s (qi fun r25 s24 => F r25 s24)))))))))) : wm iv L h0 (d + 1) 155 18 [lr 307, li l1, li l2, li l3, li l4, li l5] [] s (qi F) := by
  refine w_iload rfl rfl ?_
  refine w_iconst (n := 4) rfl rfl ?_
  refine w_icmp_ge rfl (fun h => ?_) (fun h => ?_)
  · replace H := H.1 h
    refine w_aload_n rfl rfl ?_
    refine m_geta (t := 0) (k := 3004) rfl rfl ?_
    refine w_aload_n rfl rfl ?_
    refine m_geta (t := 0) (k := 8) rfl rfl ?_
    refine w_iload_n rfl rfl ?_
    obtain ⟨g1, H⟩ := H
    refine m_ald rfl (f := 72) (k := 8) rfl g1 ?_
    refine w_iconst (n := 1) rfl rfl ?_
    obtain ⟨g2, H⟩ := H
    refine w_isub rfl g2 ?_
    obtain ⟨g3, H⟩ := H
    refine m_ald rfl (f := 10) (k := 3004) rfl g3 ?_
    refine w_istore rfl rfl ?_
    refine w_iload rfl rfl ?_
    refine w_if_ne rfl (fun h => ?_) (fun h => ?_)
    · replace H := H.1 h
      refine w_sipush (n := 1000) rfl rfl rfl ?_
      refine w_aload_n rfl rfl ?_
      refine m_geta (t := 0) (k := 3004) rfl rfl ?_
      refine w_aload_n rfl rfl ?_
      refine m_geta (t := 0) (k := 8) rfl rfl ?_
      refine w_iload_n rfl rfl ?_
      obtain ⟨g4, H⟩ := H
      refine m_ald rfl (f := 72) (k := 8) rfl g4 ?_
      refine w_iconst (n := 1) rfl rfl ?_
      obtain ⟨g5, H⟩ := H
      refine w_isub rfl g5 ?_
      obtain ⟨g6, H⟩ := H
      refine m_ald rfl (f := 10) (k := 3004) rfl g6 ?_
      refine w_imulw rfl ?_
      refine w_istore rfl rfl ?_
      refine w_aload_n rfl rfl ?_
      refine w_iload rfl rfl ?_
      refine w_iconst (n := (-1)) rfl rfl ?_
      refine w_icmp_ne rfl (fun h => ?_) (fun h => ?_)
      · replace H := H.1 h
        refine w_iload rfl rfl ?_
        refine w_iload rfl rfl ?_
        obtain ⟨g7, H⟩ := H
        obtain ⟨g8, H⟩ := H
        refine w_idiv rfl g7 g8 ?_
        refine m_put rfl rfl rfl ?_
        refine w_iconst (n := 1) rfl rfl ?_
        exact w_iret rfl rfl ⟨_, rfl, H⟩
      · replace H := H.2 h
        refine w_iload rfl rfl ?_
        refine w_inegw rfl ?_
        refine w_goto rfl ?_
        refine m_put rfl rfl rfl ?_
        refine w_iconst (n := 1) rfl rfl ?_
        exact w_iret rfl rfl ⟨_, rfl, H⟩
    · replace H := H.2 h
      refine w_aload_n rfl rfl ?_
      refine w_iconst (n := 4) rfl rfl ?_
      refine m_call (as := [vi 4]) (r := []) rfl rfl rfl rfl rfl rfl (wc_mono H (Nat.le_refl _) ?_)
      rintro _ s9 ⟨r10, rfl, H⟩
      show wm iv L h0 (d + 1) 155 98 [lr 307, li l1, li l2, li l3, li l4, li (s.2 10 ((s.2 72 l2) - 1))] [vi r10] s9 (qi F)
      exact w_iret rfl rfl ⟨_, rfl, H⟩
  · replace H := H.2 h
    refine w_iload rfl rfl ?_
    refine w_iconst (n := 1) rfl rfl ?_
    refine w_icmp_ne rfl (fun h => ?_) (fun h => ?_)
    · replace H := H.1 h
      refine w_iload rfl rfl ?_
      refine w_iconst (n := 2) rfl rfl ?_
      refine w_icmp_ne rfl (fun h => ?_) (fun h => ?_)
      · replace H := H.1 h
        refine w_iconst (n := 3) rfl rfl ?_
        refine w_istore rfl rfl ?_
        refine w_iload_n rfl rfl ?_
        refine w_iload rfl rfl ?_
        refine w_icmp_eq rfl (fun h => ?_) (fun h => ?_)
        · replace H := H.1 h
          refine w_aload_n rfl rfl ?_
          refine w_iload rfl rfl ?_
          refine m_call (as := [vi 3]) (r := []) rfl rfl rfl rfl rfl rfl (wc_mono H (Nat.le_refl _) ?_)
          rintro _ s11 ⟨r12, rfl, H⟩
          show wm iv L h0 (d + 1) 155 66 [lr 307, li l1, li l2, li l3, li l4, li l5, li 3] [vi r12] s11 (qi F)
          exact w_iret rfl rfl ⟨_, rfl, H⟩
        · replace H := H.2 h
          refine w_iload rfl rfl ?_
          refine w_iload rfl rfl ?_
          refine w_icmp_ne rfl (fun h => ?_) (fun h => ?_)
          · replace H := H.1 h
            obtain ⟨g13, H⟩ := H
            refine w_iinc rfl rfl rfl g13 ?_
            refine w_goto rfl ?_
            exact wp_ls (sl_s (sl_s (sl_s (sl_s (sl_s (sl_s (sl_0))))))) H
          · replace H := H.2 h
            refine w_aload_n rfl rfl ?_
            refine w_iload rfl rfl ?_
            refine m_call (as := [vi 3]) (r := []) rfl rfl rfl rfl rfl rfl (wc_mono H (Nat.le_refl _) ?_)
            rintro _ s14 ⟨r15, rfl, H⟩
            show wm iv L h0 (d + 1) 155 66 [lr 307, li l1, li l2, li l3, li l4, li l5, li 3] [vi r15] s14 (qi F)
            exact w_iret rfl rfl ⟨_, rfl, H⟩
      · replace H := H.2 h
        refine w_iconst (n := 1) rfl rfl ?_
        refine w_goto rfl ?_
        refine w_istore rfl rfl ?_
        refine w_iload_n rfl rfl ?_
        refine w_iload rfl rfl ?_
        refine w_icmp_eq rfl (fun h => ?_) (fun h => ?_)
        · replace H := H.1 h
          refine w_aload_n rfl rfl ?_
          refine w_iload rfl rfl ?_
          refine m_call (as := [vi 1]) (r := []) rfl rfl rfl rfl rfl rfl (wc_mono H (Nat.le_refl _) ?_)
          rintro _ s16 ⟨r17, rfl, H⟩
          show wm iv L h0 (d + 1) 155 66 [lr 307, li l1, li l2, li l3, li l4, li l5, li 1] [vi r17] s16 (qi F)
          exact w_iret rfl rfl ⟨_, rfl, H⟩
        · replace H := H.2 h
          refine w_iload rfl rfl ?_
          refine w_iload rfl rfl ?_
          refine w_icmp_ne rfl (fun h => ?_) (fun h => ?_)
          · replace H := H.1 h
            obtain ⟨g18, H⟩ := H
            refine w_iinc rfl rfl rfl g18 ?_
            refine w_goto rfl ?_
            exact wp_ls (sl_s (sl_s (sl_s (sl_s (sl_s (sl_s (sl_0))))))) H
          · replace H := H.2 h
            refine w_aload_n rfl rfl ?_
            refine w_iload rfl rfl ?_
            refine m_call (as := [vi 1]) (r := []) rfl rfl rfl rfl rfl rfl (wc_mono H (Nat.le_refl _) ?_)
            rintro _ s19 ⟨r20, rfl, H⟩
            show wm iv L h0 (d + 1) 155 66 [lr 307, li l1, li l2, li l3, li l4, li l5, li 1] [vi r20] s19 (qi F)
            exact w_iret rfl rfl ⟨_, rfl, H⟩
    · replace H := H.2 h
      refine w_iconst (n := 2) rfl rfl ?_
      refine w_goto rfl ?_
      refine w_istore rfl rfl ?_
      refine w_iload_n rfl rfl ?_
      refine w_iload rfl rfl ?_
      refine w_icmp_eq rfl (fun h => ?_) (fun h => ?_)
      · replace H := H.1 h
        refine w_aload_n rfl rfl ?_
        refine w_iload rfl rfl ?_
        refine m_call (as := [vi 2]) (r := []) rfl rfl rfl rfl rfl rfl (wc_mono H (Nat.le_refl _) ?_)
        rintro _ s21 ⟨r22, rfl, H⟩
        show wm iv L h0 (d + 1) 155 66 [lr 307, li l1, li l2, li l3, li l4, li l5, li 2] [vi r22] s21 (qi F)
        exact w_iret rfl rfl ⟨_, rfl, H⟩
      · replace H := H.2 h
        refine w_iload rfl rfl ?_
        refine w_iload rfl rfl ?_
        refine w_icmp_ne rfl (fun h => ?_) (fun h => ?_)
        · replace H := H.1 h
          obtain ⟨g23, H⟩ := H
          refine w_iinc rfl rfl rfl g23 ?_
          refine w_goto rfl ?_
          exact wp_ls (sl_s (sl_s (sl_s (sl_s (sl_s (sl_s (sl_0))))))) H
        · replace H := H.2 h
          refine w_aload_n rfl rfl ?_
          refine w_iload rfl rfl ?_
          refine m_call (as := [vi 2]) (r := []) rfl rfl rfl rfl rfl rfl (wc_mono H (Nat.le_refl _) ?_)
          rintro _ s24 ⟨r25, rfl, H⟩
          show wm iv L h0 (d + 1) 155 66 [lr 307, li l1, li l2, li l3, li l4, li l5, li 2] [vi r25] s24 (qi F)
          exact w_iret rfl rfl ⟨_, rfl, H⟩

/-- HoleDeskModel.asked()I -/
theorem B156 {iv : List (Int × Int)} {L : Nat} {h0 : MH} {d : Nat} {s : SM} {F : Int → SM → Prop} (H : F (s.1 73) s) : cm iv L h0 d 156 [vr 307] s (qi F) := by
  show wm iv L h0 d 156 0 [lr 307] [] s (qi F)
  refine w_aload_n rfl rfl ?_
  refine m_get rfl rfl ?_
  exact w_iret rfl rfl ⟨_, rfl, H⟩

/-- HoleDeskModel.count(I)I -/
theorem B157 {iv : List (Int × Int)} {L : Nat} {h0 : MH} {d : Nat} {s : SM} {a1 : Int} {F : Int → SM → Prop} (H : ((0 ≤ a1 ∧ a1 ≤ 6 → cm iv L h0 d 86 [vr 307] s (qv fun s1 => cm iv L h0 d 79 [vr 307] s1 (qv fun s2 => wm iv L h0 (d + 1) 157 27 [lr 307, li a1, li 0, li 0, li 0] [] s2 (qi F)))) ∧ (a1 < 0 ∨ 6 < a1 → F (-1) s))) : cm iv L h0 (d + 1) 157 [vr 307, vi a1] s (qi F) := by
  show wm iv L h0 (d + 1) 157 0 [lr 307, li a1] [] s (qi F)
  refine w_iload_n rfl rfl ?_
  refine w_iconst (n := 0) rfl rfl ?_
  refine w_bipush (n := 6) rfl rfl rfl ?_
  refine w_static (as := [vi a1, vi 0, vi 6]) (r := []) rfl rfl rfl rfl rfl (m_in (fun h => ?_) (fun h => ?_))
  · show wm iv L h0 (d + 1) 157 7 [lr 307, li a1] [vi 1] s (qi F)
    replace H := H.1 h
    refine w_if_ne rfl (fun _ => ?_) (fun h => absurd h (by decide))
    refine w_aload_n rfl rfl ?_
    refine m_call (as := []) (r := []) rfl rfl rfl rfl rfl rfl (wc_mono H (Nat.le_refl _) ?_)
    rintro _ s1 ⟨rfl, H⟩
    show wm iv L h0 (d + 1) 157 16 [lr 307, li a1] [] s1 (qi F)
    refine w_aload_n rfl rfl ?_
    refine m_call (as := []) (r := []) rfl rfl rfl rfl rfl rfl (wc_mono H (Nat.le_refl _) ?_)
    rintro _ s2 ⟨rfl, H⟩
    show wm iv L h0 (d + 1) 157 20 [lr 307, li a1] [] s2 (qi F)
    refine w_iconst (n := 0) rfl rfl ?_
    refine w_istore_n rfl rfl ?_
    refine w_iconst (n := 0) rfl rfl ?_
    refine w_istore_n rfl rfl ?_
    refine w_iconst (n := 0) rfl rfl ?_
    refine w_istore rfl rfl ?_
    exact wp_ls (sl_s (sl_s (sl_s (sl_s (sl_s (sl_0)))))) H
  · show wm iv L h0 (d + 1) 157 7 [lr 307, li a1] [vi 0] s (qi F)
    replace H := H.2 h
    refine w_if_ne rfl (fun h => absurd h (by decide)) (fun _ => ?_)
    refine w_iconst (n := (-1)) rfl rfl ?_
    exact w_iret rfl rfl ⟨_, rfl, H⟩

/-- HoleDeskModel.count(I)I at 27 -/
theorem B157_27 {iv : List (Int × Int)} {L : Nat} {h0 : MH} {d : Nat} {s : SM} {l1 : Int} {l2 : Int} {l3 : Int} {l4 : Int} {F : Int → SM → Prop} (H : ((s.1 18 ≤ l4 → wm iv L h0 (d + 1) 157 94 [lr 307, li l1, li l2, li l3, li 0, li 0] [] s (qi F)) ∧ (l4 < s.1 18 → (0 ≤ l4 ∧ l4 < 80) ∧ (0 ≤ s.2 17 l4 ∧ s.2 17 l4 < 3004) ∧ ((s.2 21 (s.2 17 l4) ≤ 0 → (-2147483648 ≤ l2 + 0 ∧ l2 + 0 ≤ 2147483647) ∧ ((s.2 9 (s.2 17 l4) ≠ 0 → (-2147483648 ≤ l3 + 0 ∧ l3 + 0 ≤ 2147483647) ∧ (-2147483648 ≤ l4 + 1 ∧ l4 + 1 ≤ 2147483647) ∧ wm iv L h0 (d + 1) 157 27 [lr 307, li l1, li (l2 + 0), li (l3 + 0), li (l4 + 1)] [] s (qi F)) ∧ (s.2 9 (s.2 17 l4) = 0 → (-2147483648 ≤ l3 + 1 ∧ l3 + 1 ≤ 2147483647) ∧ (-2147483648 ≤ l4 + 1 ∧ l4 + 1 ≤ 2147483647) ∧ wm iv L h0 (d + 1) 157 27 [lr 307, li l1, li (l2 + 0), li (l3 + 1), li (l4 + 1)] [] s (qi F)))) ∧ (0 < s.2 21 (s.2 17 l4) → (-2147483648 ≤ l2 + 1 ∧ l2 + 1 ≤ 2147483647) ∧ ((s.2 9 (s.2 17 l4) ≠ 0 → (-2147483648 ≤ l3 + 0 ∧ l3 + 0 ≤ 2147483647) ∧ (-2147483648 ≤ l4 + 1 ∧ l4 + 1 ≤ 2147483647) ∧ wm iv L h0 (d + 1) 157 27 [lr 307, li l1, li (l2 + 1), li (l3 + 0), li (l4 + 1)] [] s (qi F)) ∧ (s.2 9 (s.2 17 l4) = 0 → (-2147483648 ≤ l3 + 1 ∧ l3 + 1 ≤ 2147483647) ∧ (-2147483648 ≤ l4 + 1 ∧ l4 + 1 ≤ 2147483647) ∧ wm iv L h0 (d + 1) 157 27 [lr 307, li l1, li (l2 + 1), li (l3 + 1), li (l4 + 1)] [] s (qi F)))))))) : wm iv L h0 (d + 1) 157 27 [lr 307, li l1, li l2, li l3, li l4] [] s (qi F) := by
  refine w_iload rfl rfl ?_
  refine w_aload_n rfl rfl ?_
  refine m_get rfl rfl ?_
  refine w_icmp_ge rfl (fun h => ?_) (fun h => ?_)
  · replace H := H.1 h
    refine w_iconst (n := 0) rfl rfl ?_
    refine w_istore rfl rfl ?_
    refine w_iconst (n := 0) rfl rfl ?_
    refine w_istore rfl rfl ?_
    exact wp_ls (sl_s (sl_s (sl_s (sl_s (sl_s (sl_s (sl_0))))))) H
  · replace H := H.2 h
    refine w_iload_n rfl rfl ?_
    refine w_aload_n rfl rfl ?_
    refine m_geta (t := 0) (k := 3004) rfl rfl ?_
    refine w_aload_n rfl rfl ?_
    refine m_geta (t := 0) (k := 80) rfl rfl ?_
    refine w_iload rfl rfl ?_
    obtain ⟨g1, H⟩ := H
    refine m_ald rfl (f := 17) (k := 80) rfl g1 ?_
    obtain ⟨g2, H⟩ := H
    refine m_ald rfl (f := 21) (k := 3004) rfl g2 ?_
    refine w_if_le rfl (fun h => ?_) (fun h => ?_)
    · replace H := H.1 h
      refine w_iconst (n := 0) rfl rfl ?_
      obtain ⟨g3, H⟩ := H
      refine w_iadd rfl g3 ?_
      refine w_istore_n rfl rfl ?_
      refine w_iload_n rfl rfl ?_
      refine w_aload_n rfl rfl ?_
      refine m_geta (t := 0) (k := 3004) rfl rfl ?_
      refine w_aload_n rfl rfl ?_
      refine m_geta (t := 0) (k := 80) rfl rfl ?_
      refine w_iload rfl rfl ?_
      refine m_ald rfl (f := 17) (k := 80) rfl g1 ?_
      refine m_ald rfl (f := 9) (k := 3004) rfl g2 ?_
      refine w_if_ne rfl (fun h => ?_) (fun h => ?_)
      · replace H := H.1 h
        refine w_iconst (n := 0) rfl rfl ?_
        obtain ⟨g4, H⟩ := H
        refine w_iadd rfl g4 ?_
        refine w_istore_n rfl rfl ?_
        obtain ⟨g5, H⟩ := H
        refine w_iinc rfl rfl rfl g5 ?_
        refine w_goto rfl ?_
        exact wp_ls (sl_s (sl_s (sl_s (sl_s (sl_s (sl_0)))))) H
      · replace H := H.2 h
        refine w_iconst (n := 1) rfl rfl ?_
        refine w_goto rfl ?_
        obtain ⟨g6, H⟩ := H
        refine w_iadd rfl g6 ?_
        refine w_istore_n rfl rfl ?_
        obtain ⟨g7, H⟩ := H
        refine w_iinc rfl rfl rfl g7 ?_
        refine w_goto rfl ?_
        exact wp_ls (sl_s (sl_s (sl_s (sl_s (sl_s (sl_0)))))) H
    · replace H := H.2 h
      refine w_iconst (n := 1) rfl rfl ?_
      refine w_goto rfl ?_
      obtain ⟨g8, H⟩ := H
      refine w_iadd rfl g8 ?_
      refine w_istore_n rfl rfl ?_
      refine w_iload_n rfl rfl ?_
      refine w_aload_n rfl rfl ?_
      refine m_geta (t := 0) (k := 3004) rfl rfl ?_
      refine w_aload_n rfl rfl ?_
      refine m_geta (t := 0) (k := 80) rfl rfl ?_
      refine w_iload rfl rfl ?_
      refine m_ald rfl (f := 17) (k := 80) rfl g1 ?_
      refine m_ald rfl (f := 9) (k := 3004) rfl g2 ?_
      refine w_if_ne rfl (fun h => ?_) (fun h => ?_)
      · replace H := H.1 h
        refine w_iconst (n := 0) rfl rfl ?_
        obtain ⟨g9, H⟩ := H
        refine w_iadd rfl g9 ?_
        refine w_istore_n rfl rfl ?_
        obtain ⟨g10, H⟩ := H
        refine w_iinc rfl rfl rfl g10 ?_
        refine w_goto rfl ?_
        exact wp_ls (sl_s (sl_s (sl_s (sl_s (sl_s (sl_0)))))) H
      · replace H := H.2 h
        refine w_iconst (n := 1) rfl rfl ?_
        refine w_goto rfl ?_
        obtain ⟨g11, H⟩ := H
        refine w_iadd rfl g11 ?_
        refine w_istore_n rfl rfl ?_
        obtain ⟨g12, H⟩ := H
        refine w_iinc rfl rfl rfl g12 ?_
        refine w_goto rfl ?_
        exact wp_ls (sl_s (sl_s (sl_s (sl_s (sl_s (sl_0)))))) H

/-- HoleDeskModel.count(I)I at 94 -/
theorem B157_94 {iv : List (Int × Int)} {L : Nat} {h0 : MH} {d : Nat} {s : SM} {l1 : Int} {l2 : Int} {l3 : Int} {l4 : Int} {l5 : Int} {F : Int → SM → Prop} (H : ((6 ≤ l5 → ((l1 = 0 → F (s.1 2) s) ∧ (l1 = 1 → F (s.1 8) s) ∧ (l1 = 2 → F (s.1 24) s) ∧ (l1 = 3 → F l2 s) ∧ (l1 = 4 → F l3 s) ∧ (l1 = 5 → F l4 s) ∧ (l1 < 0 ∨ 5 < l1 → F (s.1 61) s))) ∧ (l5 < 6 → (0 ≤ l5 ∧ l5 < 6) ∧ (-2147483648 ≤ l4 + (s.2 37 l5) ∧ l4 + (s.2 37 l5) ≤ 2147483647) ∧ (-2147483648 ≤ l5 + 1 ∧ l5 + 1 ≤ 2147483647) ∧ wm iv L h0 (d + 1) 157 94 [lr 307, li l1, li l2, li l3, li (l4 + (s.2 37 l5)), li (l5 + 1)] [] s (qi F)))) : wm iv L h0 (d + 1) 157 94 [lr 307, li l1, li l2, li l3, li l4, li l5] [] s (qi F) := by
  refine w_iload rfl rfl ?_
  refine w_bipush (n := 6) rfl rfl rfl ?_
  refine w_icmp_ge rfl (fun h => ?_) (fun h => ?_)
  · replace H := H.1 h
    refine w_iload_n rfl rfl ?_
    have J160 : (l1 = 0) → wm iv L h0 (d + 1) 157 160 [lr 307, li l1, li l2, li l3, li l4, li l5] [] s (qi F) := fun h => by
      replace H := H.1 h
      refine w_aload_n rfl rfl ?_
      refine m_get rfl rfl ?_
      exact w_iret rfl rfl ⟨_, rfl, H⟩
    have J165 : (l1 = 1) → wm iv L h0 (d + 1) 157 165 [lr 307, li l1, li l2, li l3, li l4, li l5] [] s (qi F) := fun h => by
      replace H := H.2.1 h
      refine w_aload_n rfl rfl ?_
      refine m_get rfl rfl ?_
      exact w_iret rfl rfl ⟨_, rfl, H⟩
    have J170 : (l1 = 2) → wm iv L h0 (d + 1) 157 170 [lr 307, li l1, li l2, li l3, li l4, li l5] [] s (qi F) := fun h => by
      replace H := H.2.2.1 h
      refine w_aload_n rfl rfl ?_
      refine m_get rfl rfl ?_
      exact w_iret rfl rfl ⟨_, rfl, H⟩
    have J175 : (l1 = 3) → wm iv L h0 (d + 1) 157 175 [lr 307, li l1, li l2, li l3, li l4, li l5] [] s (qi F) := fun h => by
      replace H := H.2.2.2.1 h
      refine w_iload_n rfl rfl ?_
      exact w_iret rfl rfl ⟨_, rfl, H⟩
    have J177 : (l1 = 4) → wm iv L h0 (d + 1) 157 177 [lr 307, li l1, li l2, li l3, li l4, li l5] [] s (qi F) := fun h => by
      replace H := H.2.2.2.2.1 h
      refine w_iload_n rfl rfl ?_
      exact w_iret rfl rfl ⟨_, rfl, H⟩
    have J179 : (l1 = 5) → wm iv L h0 (d + 1) 157 179 [lr 307, li l1, li l2, li l3, li l4, li l5] [] s (qi F) := fun h => by
      replace H := H.2.2.2.2.2.1 h
      refine w_iload rfl rfl ?_
      exact w_iret rfl rfl ⟨_, rfl, H⟩
    have J182 : (l1 < 0 ∨ 5 < l1) → wm iv L h0 (d + 1) 157 182 [lr 307, li l1, li l2, li l3, li l4, li l5] [] s (qi F) := fun h => by
      replace H := H.2.2.2.2.2.2 h
      refine w_aload_n rfl rfl ?_
      refine m_get rfl rfl ?_
      exact w_iret rfl rfl ⟨_, rfl, H⟩
    refine w_tsw (td := 182) (ts := [160, 165, 170, 175, 177, 179]) rfl rfl rfl rfl rfl rfl (fun h => J182 (by omega)) ?_
    exact swA_c (fun h => J160 (by omega)) (swA_c (fun h => J165 (by omega)) (swA_c (fun h => J170 (by omega)) (swA_c (fun h => J175 (by omega)) (swA_c (fun h => J177 (by omega)) (swA_c (fun h => J179 (by omega)) (swA_n))))))
  · replace H := H.2 h
    refine w_iload rfl rfl ?_
    refine w_aload_n rfl rfl ?_
    refine m_geta (t := 0) (k := 6) rfl rfl ?_
    refine w_iload rfl rfl ?_
    obtain ⟨g1, H⟩ := H
    refine m_ald rfl (f := 37) (k := 6) rfl g1 ?_
    obtain ⟨g2, H⟩ := H
    refine w_iadd rfl g2 ?_
    refine w_istore rfl rfl ?_
    obtain ⟨g3, H⟩ := H
    refine w_iinc rfl rfl rfl g3 ?_
    refine w_goto rfl ?_
    exact wp_ls (sl_s (sl_s (sl_s (sl_s (sl_s (sl_s (sl_0))))))) H

/-- HoleDeskModel.digest()J -/
theorem B158 {iv : List (Int × Int)} {L : Nat} {h0 : MH} {d : Nat} {s : SM} {F : Int → SM → Prop} (H : cm iv L h0 d 86 [vr 307] s (qv fun s1 => cm iv L h0 d 79 [vr 307] s1 (qv fun s2 => wm iv L h0 (d + 1) 158 14 [lr 307, ll 17, ln, li 0] [] s2 (ql F)))) : cm iv L h0 (d + 1) 158 [vr 307] s (ql F) := by
  show wm iv L h0 (d + 1) 158 0 [lr 307] [] s (ql F)
  refine w_aload_n rfl rfl ?_
  refine m_call (as := []) (r := []) rfl rfl rfl rfl rfl rfl (wc_mono H (Nat.le_refl _) ?_)
  rintro _ s1 ⟨rfl, H⟩
  show wm iv L h0 (d + 1) 158 4 [lr 307] [] s1 (ql F)
  refine w_aload_n rfl rfl ?_
  refine m_call (as := []) (r := []) rfl rfl rfl rfl rfl rfl (wc_mono H (Nat.le_refl _) ?_)
  rintro _ s2 ⟨rfl, H⟩
  show wm iv L h0 (d + 1) 158 8 [lr 307] [] s2 (ql F)
  refine w_ldc2 (z := 17) rfl rfl ?_
  refine w_lstore_n rfl rfl ?_
  refine w_iconst (n := 0) rfl rfl ?_
  refine w_istore_n rfl rfl ?_
  exact wp_ls (sl_s (sl_s (sl_n (sl_s (sl_0))))) H

/-- HoleDeskModel.digest()J at 14 -/
theorem B158_14 {iv : List (Int × Int)} {L : Nat} {h0 : MH} {d : Nat} {s : SM} {l1 : Int} {l3 : Int} {F : Int → SM → Prop} (H : ((s.1 18 ≤ l3 → F ((31 * ((31 * l1) + (s.1 16))) + (s.1 8)) s) ∧ (l3 < s.1 18 → (0 ≤ l3 ∧ l3 < 80) ∧ (0 ≤ s.2 17 l3 ∧ s.2 17 l3 < 3004) ∧ (-2147483648 ≤ l3 + 1 ∧ l3 + 1 ≤ 2147483647) ∧ wm iv L h0 (d + 1) 158 14 [lr 307, ll ((31 * ((31 * ((31 * ((31 * ((31 * l1) + (s.2 17 l3))) + (s.2 9 (s.2 17 l3)))) + (s.2 10 (s.2 17 l3)))) + (s.2 11 (s.2 17 l3)))) + (s.2 21 (s.2 17 l3))), ln, li (l3 + 1)] [] s (ql F)))) : wm iv L h0 (d + 1) 158 14 [lr 307, ll l1, ln, li l3] [] s (ql F) := by
  refine w_iload_n rfl rfl ?_
  refine w_aload_n rfl rfl ?_
  refine m_get rfl rfl ?_
  refine w_icmp_ge rfl (fun h => ?_) (fun h => ?_)
  · replace H := H.1 h
    refine w_ldc2 (z := 31) rfl rfl ?_
    refine w_ldc2 (z := 31) rfl rfl ?_
    refine w_lload_n rfl rfl ?_
    refine w_lmul rfl ?_
    refine w_aload_n rfl rfl ?_
    refine m_get rfl rfl ?_
    refine w_i2l rfl ?_
    refine w_ladd rfl ?_
    refine w_lmul rfl ?_
    refine w_aload_n rfl rfl ?_
    refine m_get rfl rfl ?_
    refine w_i2l rfl ?_
    refine w_ladd rfl ?_
    exact w_lret rfl rfl ⟨_, rfl, H⟩
  · replace H := H.2 h
    refine w_aload_n rfl rfl ?_
    refine m_geta (t := 0) (k := 80) rfl rfl ?_
    refine w_iload_n rfl rfl ?_
    obtain ⟨g1, H⟩ := H
    refine m_ald rfl (f := 17) (k := 80) rfl g1 ?_
    refine w_istore rfl rfl ?_
    refine w_ldc2 (z := 31) rfl rfl ?_
    refine w_ldc2 (z := 31) rfl rfl ?_
    refine w_lload_n rfl rfl ?_
    refine w_lmul rfl ?_
    refine w_iload rfl rfl ?_
    refine w_i2l rfl ?_
    refine w_ladd rfl ?_
    refine w_lmul rfl ?_
    refine w_aload_n rfl rfl ?_
    refine m_geta (t := 0) (k := 3004) rfl rfl ?_
    refine w_iload rfl rfl ?_
    obtain ⟨g2, H⟩ := H
    refine m_ald rfl (f := 9) (k := 3004) rfl g2 ?_
    refine w_i2l rfl ?_
    refine w_ladd rfl ?_
    refine w_lstore_n rfl rfl ?_
    refine w_ldc2 (z := 31) rfl rfl ?_
    refine w_ldc2 (z := 31) rfl rfl ?_
    refine w_ldc2 (z := 31) rfl rfl ?_
    refine w_lload_n rfl rfl ?_
    refine w_lmul rfl ?_
    refine w_aload_n rfl rfl ?_
    refine m_geta (t := 0) (k := 3004) rfl rfl ?_
    refine w_iload rfl rfl ?_
    refine m_ald rfl (f := 10) (k := 3004) rfl g2 ?_
    refine w_i2l rfl ?_
    refine w_ladd rfl ?_
    refine w_lmul rfl ?_
    refine w_aload_n rfl rfl ?_
    refine m_geta (t := 0) (k := 3004) rfl rfl ?_
    refine w_iload rfl rfl ?_
    refine m_ald rfl (f := 11) (k := 3004) rfl g2 ?_
    refine w_i2l rfl ?_
    refine w_ladd rfl ?_
    refine w_lmul rfl ?_
    refine w_aload_n rfl rfl ?_
    refine m_geta (t := 0) (k := 3004) rfl rfl ?_
    refine w_iload rfl rfl ?_
    refine m_ald rfl (f := 21) (k := 3004) rfl g2 ?_
    refine w_i2l rfl ?_
    refine w_ladd rfl ?_
    refine w_lstore_n rfl rfl ?_
    obtain ⟨g3, H⟩ := H
    refine w_iinc rfl rfl rfl g3 ?_
    refine w_goto rfl ?_
    exact wp_ls (sl_s (sl_s (sl_n (sl_s (sl_0))))) H
