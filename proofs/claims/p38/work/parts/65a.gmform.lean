section
/-! What the methods of the reference come to. Printed by wip/gen2/gens.py. -/
/-- HoleDeskModel.meets(I)I -/
theorem B61 {iv : List (Int × Int)} {L : Nat} {h0 : MH} {d : Nat} {s : SM} {a1 : Int} {F : Int → SM → Prop} (H : (0 ≤ a1 ∧ a1 < 6) ∧ (-2147483648 ≤ (s.2 1 a1) + 1 ∧ (s.2 1 a1) + 1 ≤ 2147483647) ∧ F (-3) (ua (us s 0 a1) 1 a1 ((s.2 1 a1) + 1))) : cm iv L h0 d 61 [vr 307, vi a1] s (qi F) := by
  show wm iv L h0 d 61 0 [lr 307, li a1] [] s (qi F)
  refine w_aload_n rfl rfl ?_
  refine w_iload_n rfl rfl ?_
  refine m_put rfl rfl rfl ?_
  refine w_aload_n rfl rfl ?_
  refine m_geta (t := 0) (k := 6) rfl rfl ?_
  refine w_iload_n rfl rfl ?_
  refine w_dup2 rfl rfl rfl ?_
  obtain ⟨g1, H⟩ := H
  refine m_ald rfl (f := 1) (k := 6) rfl g1 ?_
  show wm iv L h0 d 61 12 [lr 307, li a1] [vi (s.2 1 a1), vi a1, vr 308] (us s 0 a1) (qi F)
  refine w_iconst (n := 1) rfl rfl ?_
  obtain ⟨g2, H⟩ := H
  refine w_iadd rfl g2 ?_
  refine m_ast rfl (f := 1) (k := 6) rfl g1 ?_
  refine w_bipush (n := (-3)) rfl rfl rfl ?_
  exact w_iret rfl rfl ⟨_, rfl, H⟩

/-- HoleDeskModel.finding()I -/
theorem B62 {iv : List (Int × Int)} {L : Nat} {h0 : MH} {d : Nat} {s : SM} {F : Int → SM → Prop} (H : F (s.1 0) s) : cm iv L h0 d 62 [vr 307] s (qi F) := by
  show wm iv L h0 d 62 0 [lr 307] [] s (qi F)
  refine w_aload_n rfl rfl ?_
  refine m_get rfl rfl ?_
  exact w_iret rfl rfl ⟨_, rfl, H⟩

/-- HoleDeskModel.findings(I)I -/
theorem B63 {iv : List (Int × Int)} {L : Nat} {h0 : MH} {d : Nat} {s : SM} {a1 : Int} {F : Int → SM → Prop} (H : ((1 ≤ a1 ∧ a1 ≤ 5 → (0 ≤ a1 ∧ a1 < 6) ∧ F (s.2 1 a1) s) ∧ (a1 < 1 ∨ 5 < a1 → F (-1) s))) : cm iv L h0 (d + 1) 63 [vr 307, vi a1] s (qi F) := by
  show wm iv L h0 (d + 1) 63 0 [lr 307, li a1] [] s (qi F)
  refine w_iload_n rfl rfl ?_
  refine w_iconst (n := 1) rfl rfl ?_
  refine w_iconst (n := 5) rfl rfl ?_
  refine w_static (as := [vi a1, vi 1, vi 5]) (r := []) rfl rfl rfl rfl rfl (m_in (fun h => ?_) (fun h => ?_))
  · show wm iv L h0 (d + 1) 63 6 [lr 307, li a1] [vi 1] s (qi F)
    replace H := H.1 h
    refine w_if_eq rfl (fun h => absurd h (by decide)) (fun _ => ?_)
    refine w_aload_n rfl rfl ?_
    refine m_geta (t := 0) (k := 6) rfl rfl ?_
    refine w_iload_n rfl rfl ?_
    obtain ⟨g1, H⟩ := H
    refine m_ald rfl (f := 1) (k := 6) rfl g1 ?_
    refine w_goto rfl ?_
    exact w_iret rfl rfl ⟨_, rfl, H⟩
  · show wm iv L h0 (d + 1) 63 6 [lr 307, li a1] [vi 0] s (qi F)
    replace H := H.2 h
    refine w_if_eq rfl (fun _ => ?_) (fun h => absurd h (by decide))
    refine w_iconst (n := (-1)) rfl rfl ?_
    exact w_iret rfl rfl ⟨_, rfl, H⟩

/-- HoleDeskModel.thereKind(III)I -/
theorem B64 {iv : List (Int × Int)} {L : Nat} {h0 : MH} {d : Nat} {s : SM} {a1 : Int} {a2 : Int} {a3 : Int} {F : Int → SM → Prop} (H : wm iv L h0 d 64 3 [lr 307, li a1, li a2, li a3, li 0] [] s (qi F)) : cm iv L h0 d 64 [vr 307, vi a1, vi a2, vi a3] s (qi F) := by
  show wm iv L h0 d 64 0 [lr 307, li a1, li a2, li a3] [] s (qi F)
  refine w_iconst (n := 0) rfl rfl ?_
  refine w_istore rfl rfl ?_
  exact wp_ls (sl_s (sl_s (sl_s (sl_s (sl_s (sl_0)))))) H

/-- HoleDeskModel.thereKind(III)I at 3 -/
theorem B64_3 {iv : List (Int × Int)} {L : Nat} {h0 : MH} {d : Nat} {s : SM} {l1 : Int} {l2 : Int} {l3 : Int} {l4 : Int} {F : Int → SM → Prop} (H : ((s.1 3 ≤ l4 → F (-9) s) ∧ (l4 < s.1 3 → ((l4 < s.1 2 → (0 ≤ l4 ∧ l4 < 6000) ∧ ((s.2 4 l4 ≠ l1 → (-2147483648 ≤ l4 + 1 ∧ l4 + 1 ≤ 2147483647) ∧ wm iv L h0 d 64 3 [lr 307, li l1, li l2, li l3, li (l4 + 1)] [] s (qi F)) ∧ (s.2 4 l4 = l1 → ((s.2 5 l4 ≠ l2 → (-2147483648 ≤ l4 + 1 ∧ l4 + 1 ≤ 2147483647) ∧ wm iv L h0 d 64 3 [lr 307, li l1, li l2, li l3, li (l4 + 1)] [] s (qi F)) ∧ (s.2 5 l4 = l2 → ((s.2 6 l4 ≠ l3 → (-2147483648 ≤ l4 + 1 ∧ l4 + 1 ≤ 2147483647) ∧ wm iv L h0 d 64 3 [lr 307, li l1, li l2, li l3, li (l4 + 1)] [] s (qi F)) ∧ (s.2 6 l4 = l3 → F l4 s))))))) ∧ (s.1 2 ≤ l4 → ((l4 < 40 → (-2147483648 ≤ l4 + 1 ∧ l4 + 1 ≤ 2147483647) ∧ wm iv L h0 d 64 3 [lr 307, li l1, li l2, li l3, li (l4 + 1)] [] s (qi F)) ∧ (40 ≤ l4 → (0 ≤ l4 ∧ l4 < 6000) ∧ ((s.2 4 l4 ≠ l1 → (-2147483648 ≤ l4 + 1 ∧ l4 + 1 ≤ 2147483647) ∧ wm iv L h0 d 64 3 [lr 307, li l1, li l2, li l3, li (l4 + 1)] [] s (qi F)) ∧ (s.2 4 l4 = l1 → ((s.2 5 l4 ≠ l2 → (-2147483648 ≤ l4 + 1 ∧ l4 + 1 ≤ 2147483647) ∧ wm iv L h0 d 64 3 [lr 307, li l1, li l2, li l3, li (l4 + 1)] [] s (qi F)) ∧ (s.2 5 l4 = l2 → ((s.2 6 l4 ≠ l3 → (-2147483648 ≤ l4 + 1 ∧ l4 + 1 ≤ 2147483647) ∧ wm iv L h0 d 64 3 [lr 307, li l1, li l2, li l3, li (l4 + 1)] [] s (qi F)) ∧ (s.2 6 l4 = l3 → F l4 s))))))))))))) : wm iv L h0 d 64 3 [lr 307, li l1, li l2, li l3, li l4] [] s (qi F) := by
  refine w_iload rfl rfl ?_
  refine w_aload_n rfl rfl ?_
  refine m_get rfl rfl ?_
  refine w_icmp_ge rfl (fun h => ?_) (fun h => ?_)
  · replace H := H.1 h
    refine w_bipush (n := (-9)) rfl rfl rfl ?_
    exact w_iret rfl rfl ⟨_, rfl, H⟩
  · replace H := H.2 h
    refine w_iload rfl rfl ?_
    refine w_aload_n rfl rfl ?_
    refine m_get rfl rfl ?_
    refine w_icmp_lt rfl (fun h => ?_) (fun h => ?_)
    · replace H := H.1 h
      refine w_aload_n rfl rfl ?_
      refine m_geta (t := 0) (k := 6000) rfl rfl ?_
      refine w_iload rfl rfl ?_
      obtain ⟨g1, H⟩ := H
      refine m_ald rfl (f := 4) (k := 6000) rfl g1 ?_
      refine w_iload_n rfl rfl ?_
      refine w_icmp_ne rfl (fun h => ?_) (fun h => ?_)
      · replace H := H.1 h
        obtain ⟨g2, H⟩ := H
        refine w_iinc rfl rfl rfl g2 ?_
        refine w_goto rfl ?_
        exact wp_ls (sl_s (sl_s (sl_s (sl_s (sl_s (sl_0)))))) H
      · replace H := H.2 h
        refine w_aload_n rfl rfl ?_
        refine m_geta (t := 0) (k := 6000) rfl rfl ?_
        refine w_iload rfl rfl ?_
        refine m_ald rfl (f := 5) (k := 6000) rfl g1 ?_
        refine w_iload_n rfl rfl ?_
        refine w_icmp_ne rfl (fun h => ?_) (fun h => ?_)
        · replace H := H.1 h
          obtain ⟨g3, H⟩ := H
          refine w_iinc rfl rfl rfl g3 ?_
          refine w_goto rfl ?_
          exact wp_ls (sl_s (sl_s (sl_s (sl_s (sl_s (sl_0)))))) H
        · replace H := H.2 h
          refine w_aload_n rfl rfl ?_
          refine m_geta (t := 0) (k := 6000) rfl rfl ?_
          refine w_iload rfl rfl ?_
          refine m_ald rfl (f := 6) (k := 6000) rfl g1 ?_
          refine w_iload_n rfl rfl ?_
          refine w_icmp_ne rfl (fun h => ?_) (fun h => ?_)
          · replace H := H.1 h
            obtain ⟨g4, H⟩ := H
            refine w_iinc rfl rfl rfl g4 ?_
            refine w_goto rfl ?_
            exact wp_ls (sl_s (sl_s (sl_s (sl_s (sl_s (sl_0)))))) H
          · replace H := H.2 h
            refine w_iload rfl rfl ?_
            exact w_iret rfl rfl ⟨_, rfl, H⟩
    · replace H := H.2 h
      refine w_iload rfl rfl ?_
      refine w_bipush (n := 40) rfl rfl rfl ?_
      refine w_icmp_lt rfl (fun h => ?_) (fun h => ?_)
      · replace H := H.1 h
        obtain ⟨g5, H⟩ := H
        refine w_iinc rfl rfl rfl g5 ?_
        refine w_goto rfl ?_
        exact wp_ls (sl_s (sl_s (sl_s (sl_s (sl_s (sl_0)))))) H
      · replace H := H.2 h
        refine w_aload_n rfl rfl ?_
        refine m_geta (t := 0) (k := 6000) rfl rfl ?_
        refine w_iload rfl rfl ?_
        obtain ⟨g6, H⟩ := H
        refine m_ald rfl (f := 4) (k := 6000) rfl g6 ?_
        refine w_iload_n rfl rfl ?_
        refine w_icmp_ne rfl (fun h => ?_) (fun h => ?_)
        · replace H := H.1 h
          obtain ⟨g7, H⟩ := H
          refine w_iinc rfl rfl rfl g7 ?_
          refine w_goto rfl ?_
          exact wp_ls (sl_s (sl_s (sl_s (sl_s (sl_s (sl_0)))))) H
        · replace H := H.2 h
          refine w_aload_n rfl rfl ?_
          refine m_geta (t := 0) (k := 6000) rfl rfl ?_
          refine w_iload rfl rfl ?_
          refine m_ald rfl (f := 5) (k := 6000) rfl g6 ?_
          refine w_iload_n rfl rfl ?_
          refine w_icmp_ne rfl (fun h => ?_) (fun h => ?_)
          · replace H := H.1 h
            obtain ⟨g8, H⟩ := H
            refine w_iinc rfl rfl rfl g8 ?_
            refine w_goto rfl ?_
            exact wp_ls (sl_s (sl_s (sl_s (sl_s (sl_s (sl_0)))))) H
          · replace H := H.2 h
            refine w_aload_n rfl rfl ?_
            refine m_geta (t := 0) (k := 6000) rfl rfl ?_
            refine w_iload rfl rfl ?_
            refine m_ald rfl (f := 6) (k := 6000) rfl g6 ?_
            refine w_iload_n rfl rfl ?_
            refine w_icmp_ne rfl (fun h => ?_) (fun h => ?_)
            · replace H := H.1 h
              obtain ⟨g9, H⟩ := H
              refine w_iinc rfl rfl rfl g9 ?_
              refine w_goto rfl ?_
              exact wp_ls (sl_s (sl_s (sl_s (sl_s (sl_s (sl_0)))))) H
            · replace H := H.2 h
              refine w_iload rfl rfl ?_
              exact w_iret rfl rfl ⟨_, rfl, H⟩

/-- HoleDeskModel.makeKind(III)I -/
theorem B65 {iv : List (Int × Int)} {L : Nat} {h0 : MH} {d : Nat} {s : SM} {a1 : Int} {a2 : Int} {a3 : Int} {F : Int → SM → Prop} (H : (0 ≤ a2 ∧ a2 < 6000) ∧ (-2147483648 ≤ 1 + (s.2 7 a2) ∧ 1 + (s.2 7 a2) ≤ 2147483647) ∧ (0 ≤ a3 ∧ a3 < 6000) ∧ (-2147483648 ≤ (1 + (s.2 7 a2)) + (s.2 7 a3) ∧ (1 + (s.2 7 a2)) + (s.2 7 a3) ≤ 2147483647) ∧ (((1 + (s.2 7 a2)) + (s.2 7 a3) ≤ 40 → cm iv L h0 d 64 [vr 307, vi a1, vi a2, vi a3] s (qi fun r6 s5 => ((r6 ≠ (-9) → F r6 s5) ∧ (r6 = (-9) → cm iv L h0 d 66 [vr 307, vi (s5.1 3), vi a1, vi a2, vi a3, vi ((1 + (s.2 7 a2)) + (s.2 7 a3))] s5 (qv fun s7 => (-2147483648 ≤ (s7.1 3) + 1 ∧ (s7.1 3) + 1 ≤ 2147483647) ∧ F (s5.1 3) (us s7 3 ((s7.1 3) + 1))))))) ∧ (40 < (1 + (s.2 7 a2)) + (s.2 7 a3) → F 0 s))) : cm iv L h0 (d + 1) 65 [vr 307, vi a1, vi a2, vi a3] s (qi F) := by
  show wm iv L h0 (d + 1) 65 0 [lr 307, li a1, li a2, li a3] [] s (qi F)
  refine w_iconst (n := 1) rfl rfl ?_
  refine w_aload_n rfl rfl ?_
  refine m_geta (t := 0) (k := 6000) rfl rfl ?_
  refine w_iload_n rfl rfl ?_
  obtain ⟨g1, H⟩ := H
  refine m_ald rfl (f := 7) (k := 6000) rfl g1 ?_
  obtain ⟨g2, H⟩ := H
  refine w_iadd rfl g2 ?_
  refine w_aload_n rfl rfl ?_
  refine m_geta (t := 0) (k := 6000) rfl rfl ?_
  refine w_iload_n rfl rfl ?_
  obtain ⟨g3, H⟩ := H
  refine m_ald rfl (f := 7) (k := 6000) rfl g3 ?_
  obtain ⟨g4, H⟩ := H
  refine w_iadd rfl g4 ?_
  refine w_istore rfl rfl ?_
  refine w_iload rfl rfl ?_
  refine w_bipush (n := 40) rfl rfl rfl ?_
  refine w_icmp_le rfl (fun h => ?_) (fun h => ?_)
  · replace H := H.1 h
    refine w_aload_n rfl rfl ?_
    refine w_iload_n rfl rfl ?_
    refine w_iload_n rfl rfl ?_
    refine w_iload_n rfl rfl ?_
    refine m_call (as := [vi a1, vi a2, vi a3]) (r := []) rfl rfl rfl rfl rfl rfl (wc_mono H (Nat.le_refl _) ?_)
    rintro _ s5 ⟨r6, rfl, H⟩
    show wm iv L h0 (d + 1) 65 33 [lr 307, li a1, li a2, li a3, li ((1 + (s.2 7 a2)) + (s.2 7 a3))] [vi r6] s5 (qi F)
    refine w_istore rfl rfl ?_
    refine w_iload rfl rfl ?_
    refine w_bipush (n := (-9)) rfl rfl rfl ?_
    refine w_icmp_ne rfl (fun h => ?_) (fun h => ?_)
    · replace H := H.1 h
      refine w_iload rfl rfl ?_
      exact w_iret rfl rfl ⟨_, rfl, H⟩
    · replace H := H.2 h
      refine w_aload_n rfl rfl ?_
      refine m_get rfl rfl ?_
      refine w_istore rfl rfl ?_
      refine w_aload_n rfl rfl ?_
      refine w_iload rfl rfl ?_
      refine w_iload_n rfl rfl ?_
      refine w_iload_n rfl rfl ?_
      refine w_iload_n rfl rfl ?_
      refine w_iload rfl rfl ?_
      refine m_call (as := [vi (s5.1 3), vi a1, vi a2, vi a3, vi ((1 + (s.2 7 a2)) + (s.2 7 a3))]) (r := []) rfl rfl rfl rfl rfl rfl (wc_mono H (Nat.le_refl _) ?_)
      rintro _ s7 ⟨rfl, H⟩
      show wm iv L h0 (d + 1) 65 59 [lr 307, li a1, li a2, li a3, li ((1 + (s.2 7 a2)) + (s.2 7 a3)), li (s5.1 3)] [] s7 (qi F)
      refine w_aload_n rfl rfl ?_
      refine w_dup rfl rfl ?_
      refine m_get rfl rfl ?_
      refine w_iconst (n := 1) rfl rfl ?_
      obtain ⟨g8, H⟩ := H
      refine w_iadd rfl g8 ?_
      refine m_put rfl rfl rfl ?_
      refine w_iload rfl rfl ?_
      exact w_iret rfl rfl ⟨_, rfl, H⟩
  · replace H := H.2 h
    refine w_iconst (n := 0) rfl rfl ?_
    exact w_iret rfl rfl ⟨_, rfl, H⟩

/-- HoleDeskModel.setKind(IIIII)V -/
theorem B66 {iv : List (Int × Int)} {L : Nat} {h0 : MH} {d : Nat} {s : SM} {a1 : Int} {a2 : Int} {a3 : Int} {a4 : Int} {a5 : Int} {F : SM → Prop} (H : (0 ≤ a1 ∧ a1 < 6000) ∧ F (ua (ua (ua (ua s 4 a1 a2) 5 a1 a3) 6 a1 a4) 7 a1 a5)) : cm iv L h0 d 66 [vr 307, vi a1, vi a2, vi a3, vi a4, vi a5] s (qv F) := by
  show wm iv L h0 d 66 0 [lr 307, li a1, li a2, li a3, li a4, li a5] [] s (qv F)
  refine w_aload_n rfl rfl ?_
  refine m_geta (t := 0) (k := 6000) rfl rfl ?_
  refine w_iload_n rfl rfl ?_
  refine w_iload_n rfl rfl ?_
  obtain ⟨g1, H⟩ := H
  refine m_ast rfl (f := 4) (k := 6000) rfl g1 ?_
  refine w_aload_n rfl rfl ?_
  refine m_geta (t := 0) (k := 6000) rfl rfl ?_
  refine w_iload_n rfl rfl ?_
  refine w_iload_n rfl rfl ?_
  refine m_ast rfl (f := 5) (k := 6000) rfl g1 ?_
  refine w_aload_n rfl rfl ?_
  refine m_geta (t := 0) (k := 6000) rfl rfl ?_
  refine w_iload_n rfl rfl ?_
  refine w_iload rfl rfl ?_
  refine m_ast rfl (f := 6) (k := 6000) rfl g1 ?_
  refine w_aload_n rfl rfl ?_
  refine m_geta (t := 0) (k := 6000) rfl rfl ?_
  refine w_iload_n rfl rfl ?_
  refine w_iload rfl rfl ?_
  refine m_ast rfl (f := 7) (k := 6000) rfl g1 ?_
  exact w_ret rfl rfl ⟨rfl, H⟩

/-- HoleDeskModel.kind(ZII)I -/
theorem B68 {iv : List (Int × Int)} {L : Nat} {h0 : MH} {d : Nat} {s : SM} {a1 : Int} {a2 : Int} {a3 : Int} {F : Int → SM → Prop} (H : (3 ≤ s.1 2 ∧ s.1 2 ≤ 40) ∧ ((0 ≤ a2 ∧ a2 < s.1 2 → ((0 ≤ a3 ∧ a3 < s.1 2 → (0 ≤ a2 ∧ a2 < 6000) ∧ (-2147483648 ≤ 1 + (s.2 7 a2) ∧ 1 + (s.2 7 a2) ≤ 2147483647) ∧ (0 ≤ a3 ∧ a3 < 6000) ∧ (-2147483648 ≤ (1 + (s.2 7 a2)) + (s.2 7 a3) ∧ (1 + (s.2 7 a2)) + (s.2 7 a3) ≤ 2147483647) ∧ (((1 + (s.2 7 a2)) + (s.2 7 a3) ≤ 40 → ((a1 = 0 → wm iv L h0 (d + 2) 68 52 [lr 307, ln, li a2, li a3, li 3, li 3] [] s (qi F)) ∧ (a1 ≠ 0 → wm iv L h0 (d + 2) 68 52 [lr 307, ln, li a2, li a3, li 4, li 3] [] s (qi F)))) ∧ (40 < (1 + (s.2 7 a2)) + (s.2 7 a3) → F (-1) s))) ∧ (a3 < 0 ∨ s.1 2 ≤ a3 → F (-1) s))) ∧ (a2 < 0 ∨ s.1 2 ≤ a2 → F (-1) s))) : cm iv L h0 (d + 2) 68 [vr 307, vi a1, vi a2, vi a3] s (qi F) := by
  show wm iv L h0 (d + 2) 68 0 [lr 307, li a1, li a2, li a3] [] s (qi F)
  refine w_aload_n rfl rfl ?_
  refine w_iload_n rfl rfl ?_
  obtain ⟨g1, H⟩ := H
  refine m_call (as := [vi a2]) (r := []) rfl rfl rfl rfl rfl rfl (m_isKind g1 (fun h => ?_) (fun h => ?_))
  · show wm iv L h0 (d + 2) 68 5 [lr 307, li a1, li a2, li a3] [vi 1] s (qi F)
    replace H := H.1 h
    refine w_if_eq rfl (fun h => absurd h (by decide)) (fun _ => ?_)
    refine w_aload_n rfl rfl ?_
    refine w_iload_n rfl rfl ?_
    refine m_call (as := [vi a3]) (r := []) rfl rfl rfl rfl rfl rfl (m_isKind g1 (fun h => ?_) (fun h => ?_))
    · show wm iv L h0 (d + 2) 68 13 [lr 307, li a1, li a2, li a3] [vi 1] s (qi F)
      replace H := H.1 h
      refine w_if_eq rfl (fun h => absurd h (by decide)) (fun _ => ?_)
      refine w_iconst (n := 1) rfl rfl ?_
      refine w_aload_n rfl rfl ?_
      refine m_geta (t := 0) (k := 6000) rfl rfl ?_
      refine w_iload_n rfl rfl ?_
      obtain ⟨g2, H⟩ := H
      refine m_ald rfl (f := 7) (k := 6000) rfl g2 ?_
      obtain ⟨g3, H⟩ := H
      refine w_iadd rfl g3 ?_
      refine w_aload_n rfl rfl ?_
      refine m_geta (t := 0) (k := 6000) rfl rfl ?_
      refine w_iload_n rfl rfl ?_
      obtain ⟨g4, H⟩ := H
      refine m_ald rfl (f := 7) (k := 6000) rfl g4 ?_
      obtain ⟨g5, H⟩ := H
      refine w_iadd rfl g5 ?_
      refine w_bipush (n := 40) rfl rfl rfl ?_
      refine w_icmp_le rfl (fun h => ?_) (fun h => ?_)
      · replace H := H.1 h
        refine w_iload_n rfl rfl ?_
        refine w_if_eq rfl (fun h => ?_) (fun h => ?_)
        · replace H := H.1 h
          refine w_iconst (n := 3) rfl rfl ?_
          refine w_istore rfl rfl ?_
          refine w_iconst (n := 3) rfl rfl ?_
          refine w_istore rfl rfl ?_
          exact wp_ls (sl_s (sl_n (sl_s (sl_s (sl_s (sl_s (sl_0))))))) H
        · replace H := H.2 h
          refine w_iconst (n := 4) rfl rfl ?_
          refine w_goto rfl ?_
          refine w_istore rfl rfl ?_
          refine w_iconst (n := 3) rfl rfl ?_
          refine w_istore rfl rfl ?_
          exact wp_ls (sl_s (sl_n (sl_s (sl_s (sl_s (sl_s (sl_0))))))) H
      · replace H := H.2 h
        refine w_iconst (n := (-1)) rfl rfl ?_
        exact w_iret rfl rfl ⟨_, rfl, H⟩
    · show wm iv L h0 (d + 2) 68 13 [lr 307, li a1, li a2, li a3] [vi 0] s (qi F)
      replace H := H.2 h
      refine w_if_eq rfl (fun _ => ?_) (fun h => absurd h (by decide))
      refine w_iconst (n := (-1)) rfl rfl ?_
      exact w_iret rfl rfl ⟨_, rfl, H⟩
  · show wm iv L h0 (d + 2) 68 5 [lr 307, li a1, li a2, li a3] [vi 0] s (qi F)
    replace H := H.2 h
    refine w_if_eq rfl (fun _ => ?_) (fun h => absurd h (by decide))
    refine w_iconst (n := (-1)) rfl rfl ?_
    exact w_iret rfl rfl ⟨_, rfl, H⟩

/-- HoleDeskModel.kind(ZII)I at 52 -/
theorem B68_52 {iv : List (Int × Int)} {L : Nat} {h0 : MH} {d : Nat} {s : SM} {l2 : Int} {l3 : Int} {l4 : Int} {l5 : Int} {F : Int → SM → Prop} (H : ((s.1 2 ≤ l5 → ((s.1 2 ≠ 40 → (0 ≤ l2 ∧ l2 < 6000) ∧ (-2147483648 ≤ 1 + (s.2 7 l2) ∧ 1 + (s.2 7 l2) ≤ 2147483647) ∧ (0 ≤ l3 ∧ l3 < 6000) ∧ (-2147483648 ≤ (1 + (s.2 7 l2)) + (s.2 7 l3) ∧ (1 + (s.2 7 l2)) + (s.2 7 l3) ≤ 2147483647) ∧ cm iv L h0 (d + 1) 66 [vr 307, vi (s.1 2), vi l4, vi l2, vi l3, vi ((1 + (s.2 7 l2)) + (s.2 7 l3))] s (qv fun s5 => (-2147483648 ≤ (s5.1 2) + 1 ∧ (s5.1 2) + 1 ≤ 2147483647) ∧ (-2147483648 ≤ ((s5.1 2) + 1) - 1 ∧ ((s5.1 2) + 1) - 1 ≤ 2147483647) ∧ F (((s5.1 2) + 1) - 1) (us s5 2 ((s5.1 2) + 1)))) ∧ (s.1 2 = 40 → F (-2) s))) ∧ (l5 < s.1 2 → (0 ≤ l5 ∧ l5 < 6000) ∧ ((s.2 4 l5 ≠ l4 → (-2147483648 ≤ l5 + 1 ∧ l5 + 1 ≤ 2147483647) ∧ wm iv L h0 (d + 2) 68 52 [lr 307, ln, li l2, li l3, li l4, li (l5 + 1)] [] s (qi F)) ∧ (s.2 4 l5 = l4 → ((s.2 5 l5 ≠ l2 → (-2147483648 ≤ l5 + 1 ∧ l5 + 1 ≤ 2147483647) ∧ wm iv L h0 (d + 2) 68 52 [lr 307, ln, li l2, li l3, li l4, li (l5 + 1)] [] s (qi F)) ∧ (s.2 5 l5 = l2 → ((s.2 6 l5 ≠ l3 → (-2147483648 ≤ l5 + 1 ∧ l5 + 1 ≤ 2147483647) ∧ wm iv L h0 (d + 2) 68 52 [lr 307, ln, li l2, li l3, li l4, li (l5 + 1)] [] s (qi F)) ∧ (s.2 6 l5 = l3 → F l5 s))))))))) : wm iv L h0 (d + 2) 68 52 [lr 307, ln, li l2, li l3, li l4, li l5] [] s (qi F) := by
  refine w_iload rfl rfl ?_
  refine w_aload_n rfl rfl ?_
  refine m_get rfl rfl ?_
  refine w_icmp_ge rfl (fun h => ?_) (fun h => ?_)
  · replace H := H.1 h
    refine w_aload_n rfl rfl ?_
    refine m_get rfl rfl ?_
    refine w_bipush (n := 40) rfl rfl rfl ?_
    refine w_icmp_ne rfl (fun h => ?_) (fun h => ?_)
    · replace H := H.1 h
      refine w_aload_n rfl rfl ?_
      refine w_aload_n rfl rfl ?_
      refine m_get rfl rfl ?_
      refine w_iload rfl rfl ?_
      refine w_iload_n rfl rfl ?_
      refine w_iload_n rfl rfl ?_
      refine w_iconst (n := 1) rfl rfl ?_
      refine w_aload_n rfl rfl ?_
      refine m_geta (t := 0) (k := 6000) rfl rfl ?_
      refine w_iload_n rfl rfl ?_
      obtain ⟨g1, H⟩ := H
      refine m_ald rfl (f := 7) (k := 6000) rfl g1 ?_
      obtain ⟨g2, H⟩ := H
      refine w_iadd rfl g2 ?_
      refine w_aload_n rfl rfl ?_
      refine m_geta (t := 0) (k := 6000) rfl rfl ?_
      refine w_iload_n rfl rfl ?_
      obtain ⟨g3, H⟩ := H
      refine m_ald rfl (f := 7) (k := 6000) rfl g3 ?_
      obtain ⟨g4, H⟩ := H
      refine w_iadd rfl g4 ?_
      refine m_call (as := [vi (s.1 2), vi l4, vi l2, vi l3, vi ((1 + (s.2 7 l2)) + (s.2 7 l3))]) (r := []) rfl rfl rfl rfl rfl rfl (wc_mono H (Nat.le_refl _) ?_)
      rintro _ s5 ⟨rfl, H⟩
      show wm iv L h0 (d + 2) 68 143 [lr 307, ln, li l2, li l3, li l4, li l5] [] s5 (qi F)
      refine w_aload_n rfl rfl ?_
      refine w_dup rfl rfl ?_
      refine m_get rfl rfl ?_
      refine w_iconst (n := 1) rfl rfl ?_
      obtain ⟨g6, H⟩ := H
      refine w_iadd rfl g6 ?_
      refine m_put rfl rfl rfl ?_
      refine w_aload_n rfl rfl ?_
      refine m_get rfl rfl ?_
      show wm iv L h0 (d + 2) 68 157 [lr 307, ln, li l2, li l3, li l4, li l5] [vi ((s5.1 2) + 1)] (us s5 2 ((s5.1 2) + 1)) (qi F)
      refine w_iconst (n := 1) rfl rfl ?_
      obtain ⟨g7, H⟩ := H
      refine w_isub rfl g7 ?_
      exact w_iret rfl rfl ⟨_, rfl, H⟩
    · replace H := H.2 h
      refine w_bipush (n := (-2)) rfl rfl rfl ?_
      exact w_iret rfl rfl ⟨_, rfl, H⟩
  · replace H := H.2 h
    refine w_aload_n rfl rfl ?_
    refine m_geta (t := 0) (k := 6000) rfl rfl ?_
    refine w_iload rfl rfl ?_
    obtain ⟨g8, H⟩ := H
    refine m_ald rfl (f := 4) (k := 6000) rfl g8 ?_
    refine w_iload rfl rfl ?_
    refine w_icmp_ne rfl (fun h => ?_) (fun h => ?_)
    · replace H := H.1 h
      obtain ⟨g9, H⟩ := H
      refine w_iinc rfl rfl rfl g9 ?_
      refine w_goto rfl ?_
      exact wp_ls (sl_s (sl_n (sl_s (sl_s (sl_s (sl_s (sl_0))))))) H
    · replace H := H.2 h
      refine w_aload_n rfl rfl ?_
      refine m_geta (t := 0) (k := 6000) rfl rfl ?_
      refine w_iload rfl rfl ?_
      refine m_ald rfl (f := 5) (k := 6000) rfl g8 ?_
      refine w_iload_n rfl rfl ?_
      refine w_icmp_ne rfl (fun h => ?_) (fun h => ?_)
      · replace H := H.1 h
        obtain ⟨g10, H⟩ := H
        refine w_iinc rfl rfl rfl g10 ?_
        refine w_goto rfl ?_
        exact wp_ls (sl_s (sl_n (sl_s (sl_s (sl_s (sl_s (sl_0))))))) H
      · replace H := H.2 h
        refine w_aload_n rfl rfl ?_
        refine m_geta (t := 0) (k := 6000) rfl rfl ?_
        refine w_iload rfl rfl ?_
        refine m_ald rfl (f := 6) (k := 6000) rfl g8 ?_
        refine w_iload_n rfl rfl ?_
        refine w_icmp_ne rfl (fun h => ?_) (fun h => ?_)
        · replace H := H.1 h
          obtain ⟨g11, H⟩ := H
          refine w_iinc rfl rfl rfl g11 ?_
          refine w_goto rfl ?_
          exact wp_ls (sl_s (sl_n (sl_s (sl_s (sl_s (sl_s (sl_0))))))) H
        · replace H := H.2 h
          refine w_iload rfl rfl ?_
          exact w_iret rfl rfl ⟨_, rfl, H⟩

/-- HoleDeskModel.kindOf(II)I -/
theorem B69 {iv : List (Int × Int)} {L : Nat} {h0 : MH} {d : Nat} {s : SM} {a1 : Int} {a2 : Int} {F : Int → SM → Prop} (H : (3 ≤ s.1 2 ∧ s.1 2 ≤ 40) ∧ ((0 ≤ a1 ∧ a1 < s.1 2 → ((0 ≤ a2 ∧ a2 ≤ 3 → ((a2 ≠ 0 → ((a2 ≠ 1 → ((a2 ≠ 2 → (0 ≤ a1 ∧ a1 < 6000) ∧ F (s.2 7 a1) s) ∧ (a2 = 2 → (0 ≤ a1 ∧ a1 < 6000) ∧ F (s.2 6 a1) s))) ∧ (a2 = 1 → (0 ≤ a1 ∧ a1 < 6000) ∧ F (s.2 5 a1) s))) ∧ (a2 = 0 → (0 ≤ a1 ∧ a1 < 6000) ∧ F (s.2 4 a1) s))) ∧ (a2 < 0 ∨ 3 < a2 → F (-1) s))) ∧ (a1 < 0 ∨ s.1 2 ≤ a1 → F (-1) s))) : cm iv L h0 (d + 2) 69 [vr 307, vi a1, vi a2] s (qi F) := by
  show wm iv L h0 (d + 2) 69 0 [lr 307, li a1, li a2] [] s (qi F)
  refine w_aload_n rfl rfl ?_
  refine w_iload_n rfl rfl ?_
  obtain ⟨g1, H⟩ := H
  refine m_call (as := [vi a1]) (r := []) rfl rfl rfl rfl rfl rfl (m_isKind g1 (fun h => ?_) (fun h => ?_))
  · show wm iv L h0 (d + 2) 69 5 [lr 307, li a1, li a2] [vi 1] s (qi F)
    replace H := H.1 h
    refine w_if_eq rfl (fun h => absurd h (by decide)) (fun _ => ?_)
    refine w_iload_n rfl rfl ?_
    refine w_iconst (n := 0) rfl rfl ?_
    refine w_iconst (n := 3) rfl rfl ?_
    refine w_static (as := [vi a2, vi 0, vi 3]) (r := []) rfl rfl rfl rfl rfl (m_in (fun h => ?_) (fun h => ?_))
    · show wm iv L h0 (d + 2) 69 14 [lr 307, li a1, li a2] [vi 1] s (qi F)
      replace H := H.1 h
      refine w_if_ne rfl (fun _ => ?_) (fun h => absurd h (by decide))
      refine w_iload_n rfl rfl ?_
      refine w_if_ne rfl (fun h => ?_) (fun h => ?_)
      · replace H := H.1 h
        refine w_iload_n rfl rfl ?_
        refine w_iconst (n := 1) rfl rfl ?_
        refine w_icmp_ne rfl (fun h => ?_) (fun h => ?_)
        · replace H := H.1 h
          refine w_iload_n rfl rfl ?_
          refine w_iconst (n := 2) rfl rfl ?_
          refine w_icmp_ne rfl (fun h => ?_) (fun h => ?_)
          · replace H := H.1 h
            refine w_aload_n rfl rfl ?_
            refine m_geta (t := 0) (k := 6000) rfl rfl ?_
            refine w_iload_n rfl rfl ?_
            obtain ⟨g2, H⟩ := H
            refine m_ald rfl (f := 7) (k := 6000) rfl g2 ?_
            exact w_iret rfl rfl ⟨_, rfl, H⟩
          · replace H := H.2 h
            refine w_aload_n rfl rfl ?_
            refine m_geta (t := 0) (k := 6000) rfl rfl ?_
            refine w_iload_n rfl rfl ?_
            obtain ⟨g3, H⟩ := H
            refine m_ald rfl (f := 6) (k := 6000) rfl g3 ?_
            refine w_goto rfl ?_
            exact w_iret rfl rfl ⟨_, rfl, H⟩
        · replace H := H.2 h
          refine w_aload_n rfl rfl ?_
          refine m_geta (t := 0) (k := 6000) rfl rfl ?_
          refine w_iload_n rfl rfl ?_
          obtain ⟨g4, H⟩ := H
          refine m_ald rfl (f := 5) (k := 6000) rfl g4 ?_
          refine w_goto rfl ?_
          exact w_iret rfl rfl ⟨_, rfl, H⟩
      · replace H := H.2 h
        refine w_aload_n rfl rfl ?_
        refine m_geta (t := 0) (k := 6000) rfl rfl ?_
        refine w_iload_n rfl rfl ?_
        obtain ⟨g5, H⟩ := H
        refine m_ald rfl (f := 4) (k := 6000) rfl g5 ?_
        refine w_goto rfl ?_
        exact w_iret rfl rfl ⟨_, rfl, H⟩
    · show wm iv L h0 (d + 2) 69 14 [lr 307, li a1, li a2] [vi 0] s (qi F)
      replace H := H.2 h
      refine w_if_ne rfl (fun h => absurd h (by decide)) (fun _ => ?_)
      refine w_iconst (n := (-1)) rfl rfl ?_
      exact w_iret rfl rfl ⟨_, rfl, H⟩
  · show wm iv L h0 (d + 2) 69 5 [lr 307, li a1, li a2] [vi 0] s (qi F)
    replace H := H.2 h
    refine w_if_eq rfl (fun _ => ?_) (fun h => absurd h (by decide))
    refine w_iconst (n := (-1)) rfl rfl ?_
    exact w_iret rfl rfl ⟨_, rfl, H⟩

/-- HoleDeskModel.areMeeting(II)Z -/
theorem B70 {iv : List (Int × Int)} {L : Nat} {h0 : MH} {d : Nat} {s : SM} {a1 : Int} {a2 : Int} {F : Int → SM → Prop} (H : ((a1 = 0 → F 1 s) ∧ (a1 ≠ 0 → ((a2 ≠ 0 → (0 ≤ a1 ∧ a1 < 6000) ∧ (0 ≤ a2 ∧ a2 < 6000) ∧ ((s.2 4 a1 = s.2 4 a2 → ((s.2 4 a1 < 3 → F 1 s) ∧ (3 ≤ s.2 4 a1 → cm iv L h0 d 70 [vr 307, vi (s.2 5 a1), vi (s.2 5 a2)] s (qi fun r4 s3 => ((r4 = 0 → F 0 s3) ∧ (r4 ≠ 0 → cm iv L h0 d 70 [vr 307, vi (s3.2 6 a1), vi (s3.2 6 a2)] s3 (qi fun r6 s5 => ((r6 = 0 → F 0 s5) ∧ (r6 ≠ 0 → F 1 s5))))))))) ∧ (s.2 4 a1 ≠ s.2 4 a2 → F 0 s))) ∧ (a2 = 0 → F 1 s))))) : cm iv L h0 (d + 1) 70 [vr 307, vi a1, vi a2] s (qi F) := by
  show wm iv L h0 (d + 1) 70 0 [lr 307, li a1, li a2] [] s (qi F)
  refine w_iload_n rfl rfl ?_
  refine w_if_eq rfl (fun h => ?_) (fun h => ?_)
  · replace H := H.1 h
    refine w_iconst (n := 1) rfl rfl ?_
    exact w_iretz rfl rfl (by decide) ⟨_, rfl, H⟩
  · replace H := H.2 h
    refine w_iload_n rfl rfl ?_
    refine w_if_ne rfl (fun h => ?_) (fun h => ?_)
    · replace H := H.1 h
      refine w_aload_n rfl rfl ?_
      refine m_geta (t := 0) (k := 6000) rfl rfl ?_
      refine w_iload_n rfl rfl ?_
      obtain ⟨g1, H⟩ := H
      refine m_ald rfl (f := 4) (k := 6000) rfl g1 ?_
      refine w_aload_n rfl rfl ?_
      refine m_geta (t := 0) (k := 6000) rfl rfl ?_
      refine w_iload_n rfl rfl ?_
      obtain ⟨g2, H⟩ := H
      refine m_ald rfl (f := 4) (k := 6000) rfl g2 ?_
      refine w_icmp_eq rfl (fun h => ?_) (fun h => ?_)
      · replace H := H.1 h
        refine w_aload_n rfl rfl ?_
        refine m_geta (t := 0) (k := 6000) rfl rfl ?_
        refine w_iload_n rfl rfl ?_
        refine m_ald rfl (f := 4) (k := 6000) rfl g1 ?_
        refine w_iconst (n := 3) rfl rfl ?_
        refine w_icmp_lt rfl (fun h => ?_) (fun h => ?_)
        · replace H := H.1 h
          refine w_iconst (n := 1) rfl rfl ?_
          refine w_goto rfl ?_
          exact w_iretz rfl rfl (by decide) ⟨_, rfl, H⟩
        · replace H := H.2 h
          refine w_aload_n rfl rfl ?_
          refine w_aload_n rfl rfl ?_
          refine m_geta (t := 0) (k := 6000) rfl rfl ?_
          refine w_iload_n rfl rfl ?_
          refine m_ald rfl (f := 5) (k := 6000) rfl g1 ?_
          refine w_aload_n rfl rfl ?_
          refine m_geta (t := 0) (k := 6000) rfl rfl ?_
          refine w_iload_n rfl rfl ?_
          refine m_ald rfl (f := 5) (k := 6000) rfl g2 ?_
          refine m_call (as := [vi (s.2 5 a1), vi (s.2 5 a2)]) (r := []) rfl rfl rfl rfl rfl rfl (wc_mono H (Nat.le_refl _) ?_)
          rintro _ s3 ⟨r4, rfl, H⟩
          show wm iv L h0 (d + 1) 70 53 [lr 307, li a1, li a2] [vi r4] s3 (qi F)
          refine w_if_eq rfl (fun h => ?_) (fun h => ?_)
          · replace H := H.1 h
            refine w_iconst (n := 0) rfl rfl ?_
            exact w_iretz rfl rfl (by decide) ⟨_, rfl, H⟩
          · replace H := H.2 h
            refine w_aload_n rfl rfl ?_
            refine w_aload_n rfl rfl ?_
            refine m_geta (t := 0) (k := 6000) rfl rfl ?_
            refine w_iload_n rfl rfl ?_
            refine m_ald rfl (f := 6) (k := 6000) rfl g1 ?_
            refine w_aload_n rfl rfl ?_
            refine m_geta (t := 0) (k := 6000) rfl rfl ?_
            refine w_iload_n rfl rfl ?_
            refine m_ald rfl (f := 6) (k := 6000) rfl g2 ?_
            refine m_call (as := [vi (s3.2 6 a1), vi (s3.2 6 a2)]) (r := []) rfl rfl rfl rfl rfl rfl (wc_mono H (Nat.le_refl _) ?_)
            rintro _ s5 ⟨r6, rfl, H⟩
            show wm iv L h0 (d + 1) 70 72 [lr 307, li a1, li a2] [vi r6] s5 (qi F)
            refine w_if_eq rfl (fun h => ?_) (fun h => ?_)
            · replace H := H.1 h
              refine w_iconst (n := 0) rfl rfl ?_
              exact w_iretz rfl rfl (by decide) ⟨_, rfl, H⟩
            · replace H := H.2 h
              refine w_iconst (n := 1) rfl rfl ?_
              refine w_goto rfl ?_
              exact w_iretz rfl rfl (by decide) ⟨_, rfl, H⟩
      · replace H := H.2 h
        refine w_iconst (n := 0) rfl rfl ?_
        exact w_iretz rfl rfl (by decide) ⟨_, rfl, H⟩
    · replace H := H.2 h
      refine w_iconst (n := 1) rfl rfl ?_
      exact w_iretz rfl rfl (by decide) ⟨_, rfl, H⟩

/-- HoleDeskModel.together(II)I -/
theorem B71 {iv : List (Int × Int)} {L : Nat} {h0 : MH} {d : Nat} {s : SM} {a1 : Int} {a2 : Int} {F : Int → SM → Prop} (H : ((a1 ≠ 0 → ((a2 = 0 → F a1 s) ∧ (a2 ≠ 0 → (0 ≤ a1 ∧ a1 < 6000) ∧ ((3 ≤ s.2 4 a1 → (0 ≤ a2 ∧ a2 < 6000) ∧ cm iv L h0 d 71 [vr 307, vi (s.2 5 a1), vi (s.2 5 a2)] s (qi fun r4 s3 => cm iv L h0 d 71 [vr 307, vi (s3.2 6 a1), vi (s3.2 6 a2)] s3 (qi fun r6 s5 => cm iv L h0 d 65 [vr 307, vi (s.2 4 a1), vi r4, vi r6] s5 (qi fun r8 s7 => F r8 s7)))) ∧ (s.2 4 a1 < 3 → F a1 s))))) ∧ (a1 = 0 → F a2 s))) : cm iv L h0 (d + 1) 71 [vr 307, vi a1, vi a2] s (qi F) := by
  show wm iv L h0 (d + 1) 71 0 [lr 307, li a1, li a2] [] s (qi F)
  refine w_iload_n rfl rfl ?_
  refine w_if_ne rfl (fun h => ?_) (fun h => ?_)
  · replace H := H.1 h
    refine w_iload_n rfl rfl ?_
    refine w_if_eq rfl (fun h => ?_) (fun h => ?_)
    · replace H := H.1 h
      refine w_iload_n rfl rfl ?_
      exact w_iret rfl rfl ⟨_, rfl, H⟩
    · replace H := H.2 h
      refine w_aload_n rfl rfl ?_
      refine m_geta (t := 0) (k := 6000) rfl rfl ?_
      refine w_iload_n rfl rfl ?_
      obtain ⟨g1, H⟩ := H
      refine m_ald rfl (f := 4) (k := 6000) rfl g1 ?_
      refine w_iconst (n := 3) rfl rfl ?_
      refine w_icmp_ge rfl (fun h => ?_) (fun h => ?_)
      · replace H := H.1 h
        refine w_aload_n rfl rfl ?_
        refine w_aload_n rfl rfl ?_
        refine m_geta (t := 0) (k := 6000) rfl rfl ?_
        refine w_iload_n rfl rfl ?_
        refine m_ald rfl (f := 4) (k := 6000) rfl g1 ?_
        refine w_aload_n rfl rfl ?_
        refine w_aload_n rfl rfl ?_
        refine m_geta (t := 0) (k := 6000) rfl rfl ?_
        refine w_iload_n rfl rfl ?_
        refine m_ald rfl (f := 5) (k := 6000) rfl g1 ?_
        refine w_aload_n rfl rfl ?_
        refine m_geta (t := 0) (k := 6000) rfl rfl ?_
        refine w_iload_n rfl rfl ?_
        obtain ⟨g2, H⟩ := H
        refine m_ald rfl (f := 5) (k := 6000) rfl g2 ?_
        refine m_call (as := [vi (s.2 5 a1), vi (s.2 5 a2)]) (r := [vi (s.2 4 a1), vr 307]) rfl rfl rfl rfl rfl rfl (wc_mono H (Nat.le_refl _) ?_)
        rintro _ s3 ⟨r4, rfl, H⟩
        show wm iv L h0 (d + 1) 71 45 [lr 307, li a1, li a2] [vi r4, vi (s.2 4 a1), vr 307] s3 (qi F)
        refine w_aload_n rfl rfl ?_
        refine w_aload_n rfl rfl ?_
        refine m_geta (t := 0) (k := 6000) rfl rfl ?_
        refine w_iload_n rfl rfl ?_
        refine m_ald rfl (f := 6) (k := 6000) rfl g1 ?_
        refine w_aload_n rfl rfl ?_
        refine m_geta (t := 0) (k := 6000) rfl rfl ?_
        refine w_iload_n rfl rfl ?_
        refine m_ald rfl (f := 6) (k := 6000) rfl g2 ?_
        refine m_call (as := [vi (s3.2 6 a1), vi (s3.2 6 a2)]) (r := [vi r4, vi (s.2 4 a1), vr 307]) rfl rfl rfl rfl rfl rfl (wc_mono H (Nat.le_refl _) ?_)
        rintro _ s5 ⟨r6, rfl, H⟩
        show wm iv L h0 (d + 1) 71 61 [lr 307, li a1, li a2] [vi r6, vi r4, vi (s.2 4 a1), vr 307] s5 (qi F)
        refine m_call (as := [vi (s.2 4 a1), vi r4, vi r6]) (r := []) rfl rfl rfl rfl rfl rfl (wc_mono H (Nat.le_refl _) ?_)
        rintro _ s7 ⟨r8, rfl, H⟩
        show wm iv L h0 (d + 1) 71 64 [lr 307, li a1, li a2] [vi r8] s7 (qi F)
        exact w_iret rfl rfl ⟨_, rfl, H⟩
      · replace H := H.2 h
        refine w_iload_n rfl rfl ?_
        exact w_iret rfl rfl ⟨_, rfl, H⟩
  · replace H := H.2 h
    refine w_iload_n rfl rfl ?_
    exact w_iret rfl rfl ⟨_, rfl, H⟩

/-- HoleDeskModel.meet(II)I -/
theorem B72 {iv : List (Int × Int)} {L : Nat} {h0 : MH} {d : Nat} {s : SM} {a1 : Int} {a2 : Int} {F : Int → SM → Prop} (H : (3 ≤ s.1 2 ∧ s.1 2 ≤ 40) ∧ ((0 ≤ a1 ∧ a1 < s.1 2 → ((0 ≤ a2 ∧ a2 < s.1 2 → cm iv L h0 (d + 1) 70 [vr 307, vi a1, vi a2] s (qi fun r3 s2 => ((r3 = 0 → F 0 s2) ∧ (r3 ≠ 0 → F 1 s2)))) ∧ (a2 < 0 ∨ s.1 2 ≤ a2 → F (-1) s))) ∧ (a1 < 0 ∨ s.1 2 ≤ a1 → F (-1) s))) : cm iv L h0 (d + 2) 72 [vr 307, vi a1, vi a2] s (qi F) := by
  show wm iv L h0 (d + 2) 72 0 [lr 307, li a1, li a2] [] s (qi F)
  refine w_aload_n rfl rfl ?_
  refine w_iload_n rfl rfl ?_
  obtain ⟨g1, H⟩ := H
  refine m_call (as := [vi a1]) (r := []) rfl rfl rfl rfl rfl rfl (m_isKind g1 (fun h => ?_) (fun h => ?_))
  · show wm iv L h0 (d + 2) 72 5 [lr 307, li a1, li a2] [vi 1] s (qi F)
    replace H := H.1 h
    refine w_if_eq rfl (fun h => absurd h (by decide)) (fun _ => ?_)
    refine w_aload_n rfl rfl ?_
    refine w_iload_n rfl rfl ?_
    refine m_call (as := [vi a2]) (r := []) rfl rfl rfl rfl rfl rfl (m_isKind g1 (fun h => ?_) (fun h => ?_))
    · show wm iv L h0 (d + 2) 72 13 [lr 307, li a1, li a2] [vi 1] s (qi F)
      replace H := H.1 h
      refine w_if_ne rfl (fun _ => ?_) (fun h => absurd h (by decide))
      refine w_aload_n rfl rfl ?_
      refine w_iload_n rfl rfl ?_
      refine w_iload_n rfl rfl ?_
      refine m_call (as := [vi a1, vi a2]) (r := []) rfl rfl rfl rfl rfl rfl (wc_mono H (Nat.le_refl _) ?_)
      rintro _ s2 ⟨r3, rfl, H⟩
      show wm iv L h0 (d + 2) 72 26 [lr 307, li a1, li a2] [vi r3] s2 (qi F)
      refine w_if_eq rfl (fun h => ?_) (fun h => ?_)
      · replace H := H.1 h
        refine w_iconst (n := 0) rfl rfl ?_
        exact w_iret rfl rfl ⟨_, rfl, H⟩
      · replace H := H.2 h
        refine w_iconst (n := 1) rfl rfl ?_
        refine w_goto rfl ?_
        exact w_iret rfl rfl ⟨_, rfl, H⟩
    · show wm iv L h0 (d + 2) 72 13 [lr 307, li a1, li a2] [vi 0] s (qi F)
      replace H := H.2 h
      refine w_if_ne rfl (fun h => absurd h (by decide)) (fun _ => ?_)
      refine w_iconst (n := (-1)) rfl rfl ?_
      refine w_goto rfl ?_
      exact w_iret rfl rfl ⟨_, rfl, H⟩
  · show wm iv L h0 (d + 2) 72 5 [lr 307, li a1, li a2] [vi 0] s (qi F)
    replace H := H.2 h
    refine w_if_eq rfl (fun _ => ?_) (fun h => absurd h (by decide))
    refine w_iconst (n := (-1)) rfl rfl ?_
    refine w_goto rfl ?_
    exact w_iret rfl rfl ⟨_, rfl, H⟩

/-- HoleDeskModel.born(III)I -/
theorem B74 {iv : List (Int × Int)} {L : Nat} {h0 : MH} {d : Nat} {s : SM} {a1 : Int} {a2 : Int} {a3 : Int} {F : Int → SM → Prop} (H : (-2147483648 ≤ (s.1 8) + 1 ∧ (s.1 8) + 1 ≤ 2147483647) ∧ cm iv L h0 d 75 [vr 307, vi (s.1 8), vi a1, vi a2, vi a3] (us s 8 ((s.1 8) + 1)) (qv fun s2 => F (s.1 8) s2)) : cm iv L h0 (d + 1) 74 [vr 307, vi a1, vi a2, vi a3] s (qi F) := by
  show wm iv L h0 (d + 1) 74 0 [lr 307, li a1, li a2, li a3] [] s (qi F)
  refine w_aload_n rfl rfl ?_
  refine m_get rfl rfl ?_
  refine w_istore rfl rfl ?_
  refine w_aload_n rfl rfl ?_
  refine w_dup rfl rfl ?_
  refine m_get rfl rfl ?_
  refine w_iconst (n := 1) rfl rfl ?_
  obtain ⟨g1, H⟩ := H
  refine w_iadd rfl g1 ?_
  refine m_put rfl rfl rfl ?_
  refine w_aload_n rfl rfl ?_
  refine w_iload rfl rfl ?_
  refine w_iload_n rfl rfl ?_
  refine w_iload_n rfl rfl ?_
  refine w_iload_n rfl rfl ?_
  refine m_call (as := [vi (s.1 8), vi a1, vi a2, vi a3]) (r := []) rfl rfl rfl rfl rfl rfl (wc_mono H (Nat.le_refl _) ?_)
  rintro _ s2 ⟨rfl, H⟩
  show wm iv L h0 (d + 1) 74 25 [lr 307, li a1, li a2, li a3, li (s.1 8)] [] s2 (qi F)
  refine w_iload rfl rfl ?_
  exact w_iret rfl rfl ⟨_, rfl, H⟩

/-- HoleDeskModel.set(IIII)V -/
theorem B75 {iv : List (Int × Int)} {L : Nat} {h0 : MH} {d : Nat} {s : SM} {a1 : Int} {a2 : Int} {a3 : Int} {a4 : Int} {F : SM → Prop} (H : (0 ≤ a1 ∧ a1 < 3004) ∧ ((a2 = 1 → ((a2 = 8 → F (ua (ua (ua s 9 a1 a2) 10 a1 a3) 11 a1 a4)) ∧ (a2 ≠ 8 → ((a2 ≠ 15 → F (ua (ua (ua s 9 a1 a2) 10 a1 a3) 11 a1 (-9))) ∧ (a2 = 15 → F (ua (ua (ua s 9 a1 a2) 10 a1 a3) 11 a1 a4)))))) ∧ (a2 ≠ 1 → ((a2 = 2 → ((a2 = 8 → F (ua (ua (ua s 9 a1 a2) 10 a1 a3) 11 a1 a4)) ∧ (a2 ≠ 8 → ((a2 ≠ 15 → F (ua (ua (ua s 9 a1 a2) 10 a1 a3) 11 a1 (-9))) ∧ (a2 = 15 → F (ua (ua (ua s 9 a1 a2) 10 a1 a3) 11 a1 a4)))))) ∧ (a2 ≠ 2 → ((a2 = 3 → ((a2 = 8 → F (ua (ua (ua s 9 a1 a2) 10 a1 a3) 11 a1 a4)) ∧ (a2 ≠ 8 → ((a2 ≠ 15 → F (ua (ua (ua s 9 a1 a2) 10 a1 a3) 11 a1 (-9))) ∧ (a2 = 15 → F (ua (ua (ua s 9 a1 a2) 10 a1 a3) 11 a1 a4)))))) ∧ (a2 ≠ 3 → ((a2 = 8 → ((a2 = 8 → F (ua (ua (ua s 9 a1 a2) 10 a1 a3) 11 a1 a4)) ∧ (a2 ≠ 8 → ((a2 ≠ 15 → F (ua (ua (ua s 9 a1 a2) 10 a1 a3) 11 a1 (-9))) ∧ (a2 = 15 → F (ua (ua (ua s 9 a1 a2) 10 a1 a3) 11 a1 a4)))))) ∧ (a2 ≠ 8 → ((a2 ≠ 10 → ((a2 = 8 → F (ua (ua (ua s 9 a1 a2) 10 a1 (-9)) 11 a1 a4)) ∧ (a2 ≠ 8 → ((a2 ≠ 15 → F (ua (ua (ua s 9 a1 a2) 10 a1 (-9)) 11 a1 (-9))) ∧ (a2 = 15 → F (ua (ua (ua s 9 a1 a2) 10 a1 (-9)) 11 a1 a4)))))) ∧ (a2 = 10 → ((a2 = 8 → F (ua (ua (ua s 9 a1 a2) 10 a1 a3) 11 a1 a4)) ∧ (a2 ≠ 8 → ((a2 ≠ 15 → F (ua (ua (ua s 9 a1 a2) 10 a1 a3) 11 a1 (-9))) ∧ (a2 = 15 → F (ua (ua (ua s 9 a1 a2) 10 a1 a3) 11 a1 a4)))))))))))))))) : cm iv L h0 d 75 [vr 307, vi a1, vi a2, vi a3, vi a4] s (qv F) := by
  show wm iv L h0 d 75 0 [lr 307, li a1, li a2, li a3, li a4] [] s (qv F)
  refine w_aload_n rfl rfl ?_
  refine m_geta (t := 0) (k := 3004) rfl rfl ?_
  refine w_iload_n rfl rfl ?_
  refine w_iload_n rfl rfl ?_
  obtain ⟨g1, H⟩ := H
  refine m_ast rfl (f := 9) (k := 3004) rfl g1 ?_
  refine w_aload_n rfl rfl ?_
  refine m_geta (t := 0) (k := 3004) rfl rfl ?_
  refine w_iload_n rfl rfl ?_
  refine w_iload_n rfl rfl ?_
  refine w_iconst (n := 1) rfl rfl ?_
  refine w_icmp_eq rfl (fun h => ?_) (fun h => ?_)
  · replace H := H.1 h
    refine w_iload_n rfl rfl ?_
    refine w_goto rfl ?_
    refine m_ast rfl (f := 10) (k := 3004) rfl g1 ?_
    refine w_aload_n rfl rfl ?_
    refine m_geta (t := 0) (k := 3004) rfl rfl ?_
    refine w_iload_n rfl rfl ?_
    refine w_iload_n rfl rfl ?_
    refine w_bipush (n := 8) rfl rfl rfl ?_
    refine w_icmp_eq rfl (fun h => ?_) (fun h => ?_)
    · replace H := H.1 h
      refine w_iload rfl rfl ?_
      refine w_goto rfl ?_
      refine m_ast rfl (f := 11) (k := 3004) rfl g1 ?_
      exact w_ret rfl rfl ⟨rfl, H⟩
    · replace H := H.2 h
      refine w_iload_n rfl rfl ?_
      refine w_bipush (n := 15) rfl rfl rfl ?_
      refine w_icmp_ne rfl (fun h => ?_) (fun h => ?_)
      · replace H := H.1 h
        refine w_bipush (n := (-9)) rfl rfl rfl ?_
        refine m_ast rfl (f := 11) (k := 3004) rfl g1 ?_
        exact w_ret rfl rfl ⟨rfl, H⟩
      · replace H := H.2 h
        refine w_iload rfl rfl ?_
        refine w_goto rfl ?_
        refine m_ast rfl (f := 11) (k := 3004) rfl g1 ?_
        exact w_ret rfl rfl ⟨rfl, H⟩
  · replace H := H.2 h
    refine w_iload_n rfl rfl ?_
    refine w_iconst (n := 2) rfl rfl ?_
    refine w_icmp_eq rfl (fun h => ?_) (fun h => ?_)
    · replace H := H.1 h
      refine w_iload_n rfl rfl ?_
      refine w_goto rfl ?_
      refine m_ast rfl (f := 10) (k := 3004) rfl g1 ?_
      refine w_aload_n rfl rfl ?_
      refine m_geta (t := 0) (k := 3004) rfl rfl ?_
      refine w_iload_n rfl rfl ?_
      refine w_iload_n rfl rfl ?_
      refine w_bipush (n := 8) rfl rfl rfl ?_
      refine w_icmp_eq rfl (fun h => ?_) (fun h => ?_)
      · replace H := H.1 h
        refine w_iload rfl rfl ?_
        refine w_goto rfl ?_
        refine m_ast rfl (f := 11) (k := 3004) rfl g1 ?_
        exact w_ret rfl rfl ⟨rfl, H⟩
      · replace H := H.2 h
        refine w_iload_n rfl rfl ?_
        refine w_bipush (n := 15) rfl rfl rfl ?_
        refine w_icmp_ne rfl (fun h => ?_) (fun h => ?_)
        · replace H := H.1 h
          refine w_bipush (n := (-9)) rfl rfl rfl ?_
          refine m_ast rfl (f := 11) (k := 3004) rfl g1 ?_
          exact w_ret rfl rfl ⟨rfl, H⟩
        · replace H := H.2 h
          refine w_iload rfl rfl ?_
          refine w_goto rfl ?_
          refine m_ast rfl (f := 11) (k := 3004) rfl g1 ?_
          exact w_ret rfl rfl ⟨rfl, H⟩
    · replace H := H.2 h
      refine w_iload_n rfl rfl ?_
      refine w_iconst (n := 3) rfl rfl ?_
      refine w_icmp_eq rfl (fun h => ?_) (fun h => ?_)
      · replace H := H.1 h
        refine w_iload_n rfl rfl ?_
        refine w_goto rfl ?_
        refine m_ast rfl (f := 10) (k := 3004) rfl g1 ?_
        refine w_aload_n rfl rfl ?_
        refine m_geta (t := 0) (k := 3004) rfl rfl ?_
        refine w_iload_n rfl rfl ?_
        refine w_iload_n rfl rfl ?_
        refine w_bipush (n := 8) rfl rfl rfl ?_
        refine w_icmp_eq rfl (fun h => ?_) (fun h => ?_)
        · replace H := H.1 h
          refine w_iload rfl rfl ?_
          refine w_goto rfl ?_
          refine m_ast rfl (f := 11) (k := 3004) rfl g1 ?_
          exact w_ret rfl rfl ⟨rfl, H⟩
        · replace H := H.2 h
          refine w_iload_n rfl rfl ?_
          refine w_bipush (n := 15) rfl rfl rfl ?_
          refine w_icmp_ne rfl (fun h => ?_) (fun h => ?_)
          · replace H := H.1 h
            refine w_bipush (n := (-9)) rfl rfl rfl ?_
            refine m_ast rfl (f := 11) (k := 3004) rfl g1 ?_
            exact w_ret rfl rfl ⟨rfl, H⟩
          · replace H := H.2 h
            refine w_iload rfl rfl ?_
            refine w_goto rfl ?_
            refine m_ast rfl (f := 11) (k := 3004) rfl g1 ?_
            exact w_ret rfl rfl ⟨rfl, H⟩
      · replace H := H.2 h
        refine w_iload_n rfl rfl ?_
        refine w_bipush (n := 8) rfl rfl rfl ?_
        refine w_icmp_eq rfl (fun h => ?_) (fun h => ?_)
        · replace H := H.1 h
          refine w_iload_n rfl rfl ?_
          refine w_goto rfl ?_
          refine m_ast rfl (f := 10) (k := 3004) rfl g1 ?_
          refine w_aload_n rfl rfl ?_
          refine m_geta (t := 0) (k := 3004) rfl rfl ?_
          refine w_iload_n rfl rfl ?_
          refine w_iload_n rfl rfl ?_
          refine w_bipush (n := 8) rfl rfl rfl ?_
          refine w_icmp_eq rfl (fun h => ?_) (fun h => ?_)
          · replace H := H.1 h
            refine w_iload rfl rfl ?_
            refine w_goto rfl ?_
            refine m_ast rfl (f := 11) (k := 3004) rfl g1 ?_
            exact w_ret rfl rfl ⟨rfl, H⟩
          · replace H := H.2 h
            refine w_iload_n rfl rfl ?_
            refine w_bipush (n := 15) rfl rfl rfl ?_
            refine w_icmp_ne rfl (fun h => ?_) (fun h => ?_)
            · replace H := H.1 h
              refine w_bipush (n := (-9)) rfl rfl rfl ?_
              refine m_ast rfl (f := 11) (k := 3004) rfl g1 ?_
              exact w_ret rfl rfl ⟨rfl, H⟩
            · replace H := H.2 h
              refine w_iload rfl rfl ?_
              refine w_goto rfl ?_
              refine m_ast rfl (f := 11) (k := 3004) rfl g1 ?_
              exact w_ret rfl rfl ⟨rfl, H⟩
        · replace H := H.2 h
          refine w_iload_n rfl rfl ?_
          refine w_bipush (n := 10) rfl rfl rfl ?_
          refine w_icmp_ne rfl (fun h => ?_) (fun h => ?_)
          · replace H := H.1 h
            refine w_bipush (n := (-9)) rfl rfl rfl ?_
            refine m_ast rfl (f := 10) (k := 3004) rfl g1 ?_
            refine w_aload_n rfl rfl ?_
            refine m_geta (t := 0) (k := 3004) rfl rfl ?_
            refine w_iload_n rfl rfl ?_
            refine w_iload_n rfl rfl ?_
            refine w_bipush (n := 8) rfl rfl rfl ?_
            refine w_icmp_eq rfl (fun h => ?_) (fun h => ?_)
            · replace H := H.1 h
              refine w_iload rfl rfl ?_
              refine w_goto rfl ?_
              refine m_ast rfl (f := 11) (k := 3004) rfl g1 ?_
              exact w_ret rfl rfl ⟨rfl, H⟩
            · replace H := H.2 h
              refine w_iload_n rfl rfl ?_
              refine w_bipush (n := 15) rfl rfl rfl ?_
              refine w_icmp_ne rfl (fun h => ?_) (fun h => ?_)
              · replace H := H.1 h
                refine w_bipush (n := (-9)) rfl rfl rfl ?_
                refine m_ast rfl (f := 11) (k := 3004) rfl g1 ?_
                exact w_ret rfl rfl ⟨rfl, H⟩
              · replace H := H.2 h
                refine w_iload rfl rfl ?_
                refine w_goto rfl ?_
                refine m_ast rfl (f := 11) (k := 3004) rfl g1 ?_
                exact w_ret rfl rfl ⟨rfl, H⟩
          · replace H := H.2 h
            refine w_iload_n rfl rfl ?_
            refine w_goto rfl ?_
            refine m_ast rfl (f := 10) (k := 3004) rfl g1 ?_
            refine w_aload_n rfl rfl ?_
            refine m_geta (t := 0) (k := 3004) rfl rfl ?_
            refine w_iload_n rfl rfl ?_
            refine w_iload_n rfl rfl ?_
            refine w_bipush (n := 8) rfl rfl rfl ?_
            refine w_icmp_eq rfl (fun h => ?_) (fun h => ?_)
            · replace H := H.1 h
              refine w_iload rfl rfl ?_
              refine w_goto rfl ?_
              refine m_ast rfl (f := 11) (k := 3004) rfl g1 ?_
              exact w_ret rfl rfl ⟨rfl, H⟩
            · replace H := H.2 h
              refine w_iload_n rfl rfl ?_
              refine w_bipush (n := 15) rfl rfl rfl ?_
              refine w_icmp_ne rfl (fun h => ?_) (fun h => ?_)
              · replace H := H.1 h
                refine w_bipush (n := (-9)) rfl rfl rfl ?_
                refine m_ast rfl (f := 11) (k := 3004) rfl g1 ?_
                exact w_ret rfl rfl ⟨rfl, H⟩
              · replace H := H.2 h
                refine w_iload rfl rfl ?_
                refine w_goto rfl ?_
                refine m_ast rfl (f := 11) (k := 3004) rfl g1 ?_
                exact w_ret rfl rfl ⟨rfl, H⟩

/-- HoleDeskModel.setPart(III)V -/
theorem B76 {iv : List (Int × Int)} {L : Nat} {h0 : MH} {d : Nat} {s : SM} {a1 : Int} {a2 : Int} {a3 : Int} {F : SM → Prop} (H : (-2147483648 ≤ 3 * a1 ∧ 3 * a1 ≤ 2147483647) ∧ (-2147483648 ≤ (3 * a1) + a2 ∧ (3 * a1) + a2 ≤ 2147483647) ∧ (0 ≤ (3 * a1) + a2 ∧ (3 * a1) + a2 < 9012) ∧ (0 ≤ a3 ∧ a3 < 3004) ∧ F (ua (ua (ua s 14 ((3 * a1) + a2) a3) 12 a3 a1) 13 a3 a2)) : cm iv L h0 d 76 [vr 307, vi a1, vi a2, vi a3] s (qv F) := by
  show wm iv L h0 d 76 0 [lr 307, li a1, li a2, li a3] [] s (qv F)
  refine w_aload_n rfl rfl ?_
  refine m_geta (t := 0) (k := 9012) rfl rfl ?_
  refine w_iconst (n := 3) rfl rfl ?_
  refine w_iload_n rfl rfl ?_
  obtain ⟨g1, H⟩ := H
  refine w_imul rfl g1 ?_
  refine w_iload_n rfl rfl ?_
  obtain ⟨g2, H⟩ := H
  refine w_iadd rfl g2 ?_
  refine w_iload_n rfl rfl ?_
  obtain ⟨g3, H⟩ := H
  refine m_ast rfl (f := 14) (k := 9012) rfl g3 ?_
  refine w_aload_n rfl rfl ?_
  refine m_geta (t := 0) (k := 3004) rfl rfl ?_
  refine w_iload_n rfl rfl ?_
  refine w_iload_n rfl rfl ?_
  obtain ⟨g4, H⟩ := H
  refine m_ast rfl (f := 12) (k := 3004) rfl g4 ?_
  refine w_aload_n rfl rfl ?_
  refine m_geta (t := 0) (k := 3004) rfl rfl ?_
  refine w_iload_n rfl rfl ?_
  refine w_iload_n rfl rfl ?_
  refine m_ast rfl (f := 13) (k := 3004) rfl g4 ?_
  exact w_ret rfl rfl ⟨rfl, H⟩

/-- HoleDeskModel.replace(II)V -/
theorem B77 {iv : List (Int × Int)} {L : Nat} {h0 : MH} {d : Nat} {s : SM} {a1 : Int} {a2 : Int} {F : SM → Prop} (H : (0 ≤ a1 ∧ a1 < 3004) ∧ ((s.2 12 a1 ≠ (-9) → cm iv L h0 d 76 [vr 307, vi (s.2 12 a1), vi (s.2 13 a1), vi a2] s (qv fun s2 => F s2)) ∧ (s.2 12 a1 = (-9) → (0 ≤ a2 ∧ a2 < 3004) ∧ F (ua (ua (us s 15 a2) 12 a2 (-9)) 13 a2 (-9))))) : cm iv L h0 (d + 1) 77 [vr 307, vi a1, vi a2] s (qv F) := by
  show wm iv L h0 (d + 1) 77 0 [lr 307, li a1, li a2] [] s (qv F)
  refine w_aload_n rfl rfl ?_
  refine m_geta (t := 0) (k := 3004) rfl rfl ?_
  refine w_iload_n rfl rfl ?_
  obtain ⟨g1, H⟩ := H
  refine m_ald rfl (f := 12) (k := 3004) rfl g1 ?_
  refine w_istore_n rfl rfl ?_
  refine w_aload_n rfl rfl ?_
  refine m_geta (t := 0) (k := 3004) rfl rfl ?_
  refine w_iload_n rfl rfl ?_
  refine m_ald rfl (f := 13) (k := 3004) rfl g1 ?_
  refine w_istore rfl rfl ?_
  refine w_iload_n rfl rfl ?_
  refine w_bipush (n := (-9)) rfl rfl rfl ?_
  refine w_icmp_ne rfl (fun h => ?_) (fun h => ?_)
  · replace H := H.1 h
    refine w_aload_n rfl rfl ?_
    refine w_iload_n rfl rfl ?_
    refine w_iload rfl rfl ?_
    refine w_iload_n rfl rfl ?_
    refine m_call (as := [vi (s.2 12 a1), vi (s.2 13 a1), vi a2]) (r := []) rfl rfl rfl rfl rfl rfl (wc_mono H (Nat.le_refl _) ?_)
    rintro _ s2 ⟨rfl, H⟩
    show wm iv L h0 (d + 1) 77 53 [lr 307, li a1, li a2, li (s.2 12 a1), li (s.2 13 a1)] [] s2 (qv F)
    exact w_ret rfl rfl ⟨rfl, H⟩
  · replace H := H.2 h
    refine w_aload_n rfl rfl ?_
    refine w_iload_n rfl rfl ?_
    refine m_put rfl rfl rfl ?_
    refine w_aload_n rfl rfl ?_
    refine m_geta (t := 0) (k := 3004) rfl rfl ?_
    refine w_iload_n rfl rfl ?_
    refine w_bipush (n := (-9)) rfl rfl rfl ?_
    obtain ⟨g3, H⟩ := H
    refine m_ast rfl (f := 12) (k := 3004) rfl g3 ?_
    refine w_aload_n rfl rfl ?_
    refine m_geta (t := 0) (k := 3004) rfl rfl ?_
    refine w_iload_n rfl rfl ?_
    refine w_bipush (n := (-9)) rfl rfl rfl ?_
    refine m_ast rfl (f := 13) (k := 3004) rfl g3 ?_
    refine w_goto rfl ?_
    exact w_ret rfl rfl ⟨rfl, H⟩

/-- HoleDeskModel.lay(I)V -/
theorem B78 {iv : List (Int × Int)} {L : Nat} {h0 : MH} {d : Nat} {s : SM} {a1 : Int} {F : SM → Prop} (H : (0 ≤ s.1 18 ∧ s.1 18 < 80) ∧ (-2147483648 ≤ (s.1 18) + 1 ∧ (s.1 18) + 1 ≤ 2147483647) ∧ wm iv L h0 (d + 1) 78 22 [lr 307, li a1, li 0] [] (us (ua s 17 (s.1 18) a1) 18 ((s.1 18) + 1)) (qv F)) : cm iv L h0 (d + 1) 78 [vr 307, vi a1] s (qv F) := by
  show wm iv L h0 (d + 1) 78 0 [lr 307, li a1] [] s (qv F)
  refine w_aload_n rfl rfl ?_
  refine m_geta (t := 0) (k := 80) rfl rfl ?_
  refine w_aload_n rfl rfl ?_
  refine m_get rfl rfl ?_
  refine w_iload_n rfl rfl ?_
  obtain ⟨g1, H⟩ := H
  refine m_ast rfl (f := 17) (k := 80) rfl g1 ?_
  refine w_aload_n rfl rfl ?_
  refine w_dup rfl rfl ?_
  refine m_get rfl rfl ?_
  show wm iv L h0 (d + 1) 78 15 [lr 307, li a1] [vi (s.1 18), vr 307] (ua s 17 (s.1 18) a1) (qv F)
  refine w_iconst (n := 1) rfl rfl ?_
  obtain ⟨g2, H⟩ := H
  refine w_iadd rfl g2 ?_
  refine m_put rfl rfl rfl ?_
  refine w_iconst (n := 0) rfl rfl ?_
  refine w_istore_n rfl rfl ?_
  exact wp_ls (sl_s (sl_s (sl_s (sl_0)))) H

/-- HoleDeskModel.lay(I)V at 22 -/
theorem B78_22 {iv : List (Int × Int)} {L : Nat} {h0 : MH} {d : Nat} {s : SM} {l1 : Int} {l2 : Int} {F : SM → Prop} (H : (0 ≤ l1 ∧ l1 < 3004) ∧ (0 ≤ s.2 9 l1 ∧ s.2 9 l1 < 16) ∧ ((pO (s.2 9 l1) ≤ l2 → F s) ∧ (l2 < pO (s.2 9 l1) → (-2147483648 ≤ 3 * l1 ∧ 3 * l1 ≤ 2147483647) ∧ (-2147483648 ≤ (3 * l1) + l2 ∧ (3 * l1) + l2 ≤ 2147483647) ∧ (0 ≤ (3 * l1) + l2 ∧ (3 * l1) + l2 < 9012) ∧ cm iv L h0 d 78 [vr 307, vi (s.2 14 ((3 * l1) + l2))] s (qv fun s6 => (-2147483648 ≤ l2 + 1 ∧ l2 + 1 ≤ 2147483647) ∧ wm iv L h0 (d + 1) 78 22 [lr 307, li l1, li (l2 + 1)] [] s6 (qv F))))) : wm iv L h0 (d + 1) 78 22 [lr 307, li l1, li l2] [] s (qv F) := by
  refine w_iload_n rfl rfl ?_
  refine w_aload_n rfl rfl ?_
  refine m_geta (t := 0) (k := 3004) rfl rfl ?_
  refine w_iload_n rfl rfl ?_
  obtain ⟨g1, H⟩ := H
  refine m_ald rfl (f := 9) (k := 3004) rfl g1 ?_
  obtain ⟨g2, H⟩ := H
  refine w_static (as := [vi (s.2 9 l1)]) (r := [vi l2]) rfl rfl rfl rfl rfl (m_parts g2 ?_)
  show wm iv L h0 (d + 1) 78 32 [lr 307, li l1, li l2] [vi (pO (s.2 9 l1)), vi l2] s (qv F)
  refine w_icmp_ge rfl (fun h => ?_) (fun h => ?_)
  · replace H := H.1 h
    exact w_ret rfl rfl ⟨rfl, H⟩
  · replace H := H.2 h
    refine w_aload_n rfl rfl ?_
    refine w_aload_n rfl rfl ?_
    refine m_geta (t := 0) (k := 9012) rfl rfl ?_
    refine w_iconst (n := 3) rfl rfl ?_
    refine w_iload_n rfl rfl ?_
    obtain ⟨g3, H⟩ := H
    refine w_imul rfl g3 ?_
    refine w_iload_n rfl rfl ?_
    obtain ⟨g4, H⟩ := H
    refine w_iadd rfl g4 ?_
    obtain ⟨g5, H⟩ := H
    refine m_ald rfl (f := 14) (k := 9012) rfl g5 ?_
    refine m_call (as := [vi (s.2 14 ((3 * l1) + l2))]) (r := []) rfl rfl rfl rfl rfl rfl (wc_mono H (Nat.le_refl _) ?_)
    rintro _ s6 ⟨rfl, H⟩
    show wm iv L h0 (d + 1) 78 49 [lr 307, li l1, li l2] [] s6 (qv F)
    obtain ⟨g7, H⟩ := H
    refine w_iinc rfl rfl rfl g7 ?_
    refine w_goto rfl ?_
    exact wp_ls (sl_s (sl_s (sl_s (sl_0)))) H

/-- HoleDeskModel.layAll()V -/
theorem B79 {iv : List (Int × Int)} {L : Nat} {h0 : MH} {d : Nat} {s : SM} {F : SM → Prop} (H : cm iv L h0 d 78 [vr 307, vi (s.1 15)] (us s 18 0) (qv fun s1 => F s1)) : cm iv L h0 (d + 1) 79 [vr 307] s (qv F) := by
  show wm iv L h0 (d + 1) 79 0 [lr 307] [] s (qv F)
  refine w_aload_n rfl rfl ?_
  refine w_iconst (n := 0) rfl rfl ?_
  refine m_put rfl rfl rfl ?_
  refine w_aload_n rfl rfl ?_
  refine w_aload_n rfl rfl ?_
  refine m_get rfl rfl ?_
  show wm iv L h0 (d + 1) 79 10 [lr 307] [vi (s.1 15), vr 307] (us s 18 0) (qv F)
  refine m_call (as := [vi (s.1 15)]) (r := []) rfl rfl rfl rfl rfl rfl (wc_mono H (Nat.le_refl _) ?_)
  rintro _ s1 ⟨rfl, H⟩
  show wm iv L h0 (d + 1) 79 13 [lr 307] [] s1 (qv F)
  exact w_ret rfl rfl ⟨rfl, H⟩

/-- HoleDeskModel.isThere(I)Z -/
theorem B80 {iv : List (Int × Int)} {L : Nat} {h0 : MH} {d : Nat} {s : SM} {a1 : Int} {F : Int → SM → Prop} (H : cm iv L h0 d 79 [vr 307] s (qv fun s1 => wm iv L h0 (d + 1) 80 6 [lr 307, li a1, li 0] [] s1 (qi F))) : cm iv L h0 (d + 1) 80 [vr 307, vi a1] s (qi F) := by
  show wm iv L h0 (d + 1) 80 0 [lr 307, li a1] [] s (qi F)
  refine w_aload_n rfl rfl ?_
  refine m_call (as := []) (r := []) rfl rfl rfl rfl rfl rfl (wc_mono H (Nat.le_refl _) ?_)
  rintro _ s1 ⟨rfl, H⟩
  show wm iv L h0 (d + 1) 80 4 [lr 307, li a1] [] s1 (qi F)
  refine w_iconst (n := 0) rfl rfl ?_
  refine w_istore_n rfl rfl ?_
  exact wp_ls (sl_s (sl_s (sl_s (sl_0)))) H

/-- HoleDeskModel.isThere(I)Z at 6 -/
theorem B80_6 {iv : List (Int × Int)} {L : Nat} {h0 : MH} {d : Nat} {s : SM} {l1 : Int} {l2 : Int} {F : Int → SM → Prop} (H : ((s.1 18 ≤ l2 → F 0 s) ∧ (l2 < s.1 18 → (0 ≤ l2 ∧ l2 < 80) ∧ ((s.2 17 l2 ≠ l1 → (-2147483648 ≤ l2 + 1 ∧ l2 + 1 ≤ 2147483647) ∧ wm iv L h0 (d + 1) 80 6 [lr 307, li l1, li (l2 + 1)] [] s (qi F)) ∧ (s.2 17 l2 = l1 → F 1 s))))) : wm iv L h0 (d + 1) 80 6 [lr 307, li l1, li l2] [] s (qi F) := by
  refine w_iload_n rfl rfl ?_
  refine w_aload_n rfl rfl ?_
  refine m_get rfl rfl ?_
  refine w_icmp_ge rfl (fun h => ?_) (fun h => ?_)
  · replace H := H.1 h
    refine w_iconst (n := 0) rfl rfl ?_
    exact w_iretz rfl rfl (by decide) ⟨_, rfl, H⟩
  · replace H := H.2 h
    refine w_aload_n rfl rfl ?_
    refine m_geta (t := 0) (k := 80) rfl rfl ?_
    refine w_iload_n rfl rfl ?_
    obtain ⟨g1, H⟩ := H
    refine m_ald rfl (f := 17) (k := 80) rfl g1 ?_
    refine w_iload_n rfl rfl ?_
    refine w_icmp_ne rfl (fun h => ?_) (fun h => ?_)
    · replace H := H.1 h
      obtain ⟨g2, H⟩ := H
      refine w_iinc rfl rfl rfl g2 ?_
      refine w_goto rfl ?_
      exact wp_ls (sl_s (sl_s (sl_s (sl_0)))) H
    · replace H := H.2 h
      refine w_iconst (n := 1) rfl rfl ?_
      exact w_iretz rfl rfl (by decide) ⟨_, rfl, H⟩

/-- HoleDeskModel.sizeOf(I)I -/
theorem B81 {iv : List (Int × Int)} {L : Nat} {h0 : MH} {d : Nat} {s : SM} {a1 : Int} {F : Int → SM → Prop} (H : cm iv L h0 d 78 [vr 307, vi a1] (us s 18 0) (qv fun s1 => F (s1.1 18) s1)) : cm iv L h0 (d + 1) 81 [vr 307, vi a1] s (qi F) := by
  show wm iv L h0 (d + 1) 81 0 [lr 307, li a1] [] s (qi F)
  refine w_aload_n rfl rfl ?_
  refine w_iconst (n := 0) rfl rfl ?_
  refine m_put rfl rfl rfl ?_
  refine w_aload_n rfl rfl ?_
  refine w_iload_n rfl rfl ?_
  refine m_call (as := [vi a1]) (r := []) rfl rfl rfl rfl rfl rfl (wc_mono H (Nat.le_refl _) ?_)
  rintro _ s1 ⟨rfl, H⟩
  show wm iv L h0 (d + 1) 81 10 [lr 307, li a1] [] s1 (qi F)
  refine w_aload_n rfl rfl ?_
  refine m_get rfl rfl ?_
  exact w_iret rfl rfl ⟨_, rfl, H⟩

/-- HoleDeskModel.nodes()I -/
theorem B82 {iv : List (Int × Int)} {L : Nat} {h0 : MH} {d : Nat} {s : SM} {F : Int → SM → Prop} (H : cm iv L h0 d 81 [vr 307, vi (s.1 15)] s (qi fun r2 s1 => F r2 s1)) : cm iv L h0 (d + 1) 82 [vr 307] s (qi F) := by
  show wm iv L h0 (d + 1) 82 0 [lr 307] [] s (qi F)
  refine w_aload_n rfl rfl ?_
  refine w_aload_n rfl rfl ?_
  refine m_get rfl rfl ?_
  refine m_call (as := [vi (s.1 15)]) (r := []) rfl rfl rfl rfl rfl rfl (wc_mono H (Nat.le_refl _) ?_)
  rintro _ s1 ⟨r2, rfl, H⟩
  show wm iv L h0 (d + 1) 82 8 [lr 307] [vi r2] s1 (qi F)
  exact w_iret rfl rfl ⟨_, rfl, H⟩

/-- HoleDeskModel.cursor()I -/
theorem B83 {iv : List (Int × Int)} {L : Nat} {h0 : MH} {d : Nat} {s : SM} {F : Int → SM → Prop} (H : F (s.1 16) s) : cm iv L h0 d 83 [vr 307] s (qi F) := by
  show wm iv L h0 d 83 0 [lr 307] [] s (qi F)
  refine w_aload_n rfl rfl ?_
  refine m_get rfl rfl ?_
  exact w_iret rfl rfl ⟨_, rfl, H⟩

/-- HoleDeskModel.isWithin(II)Z -/
theorem B84 {iv : List (Int × Int)} {L : Nat} {h0 : MH} {d : Nat} {s : SM} {a1 : Int} {a2 : Int} {F : Int → SM → Prop} (H : wm iv L h0 d 84 2 [lr 307, ln, li a2, li a1] [] s (qi F)) : cm iv L h0 d 84 [vr 307, vi a1, vi a2] s (qi F) := by
  show wm iv L h0 d 84 0 [lr 307, li a1, li a2] [] s (qi F)
  refine w_iload_n rfl rfl ?_
  refine w_istore_n rfl rfl ?_
  exact wp_ls (sl_s (sl_n (sl_s (sl_s (sl_0))))) H

/-- HoleDeskModel.isWithin(II)Z at 2 -/
theorem B84_2 {iv : List (Int × Int)} {L : Nat} {h0 : MH} {d : Nat} {s : SM} {l2 : Int} {l3 : Int} {F : Int → SM → Prop} (H : ((l3 = (-9) → ((l3 ≠ l2 → F 0 s) ∧ (l3 = l2 → F 1 s))) ∧ (l3 ≠ (-9) → ((l3 = l2 → ((l3 ≠ l2 → F 0 s) ∧ (l3 = l2 → F 1 s))) ∧ (l3 ≠ l2 → (0 ≤ l3 ∧ l3 < 3004) ∧ wm iv L h0 d 84 2 [lr 307, ln, li l2, li (s.2 12 l3)] [] s (qi F)))))) : wm iv L h0 d 84 2 [lr 307, ln, li l2, li l3] [] s (qi F) := by
  refine w_iload_n rfl rfl ?_
  refine w_bipush (n := (-9)) rfl rfl rfl ?_
  refine w_icmp_eq rfl (fun h => ?_) (fun h => ?_)
  · replace H := H.1 h
    refine w_iload_n rfl rfl ?_
    refine w_iload_n rfl rfl ?_
    refine w_icmp_ne rfl (fun h => ?_) (fun h => ?_)
    · replace H := H.1 h
      refine w_iconst (n := 0) rfl rfl ?_
      exact w_iretz rfl rfl (by decide) ⟨_, rfl, H⟩
    · replace H := H.2 h
      refine w_iconst (n := 1) rfl rfl ?_
      refine w_goto rfl ?_
      exact w_iretz rfl rfl (by decide) ⟨_, rfl, H⟩
  · replace H := H.2 h
    refine w_iload_n rfl rfl ?_
    refine w_iload_n rfl rfl ?_
    refine w_icmp_eq rfl (fun h => ?_) (fun h => ?_)
    · replace H := H.1 h
      refine w_iload_n rfl rfl ?_
      refine w_iload_n rfl rfl ?_
      refine w_icmp_ne rfl (fun h => ?_) (fun h => ?_)
      · replace H := H.1 h
        refine w_iconst (n := 0) rfl rfl ?_
        exact w_iretz rfl rfl (by decide) ⟨_, rfl, H⟩
      · replace H := H.2 h
        refine w_iconst (n := 1) rfl rfl ?_
        refine w_goto rfl ?_
        exact w_iretz rfl rfl (by decide) ⟨_, rfl, H⟩
    · replace H := H.2 h
      refine w_aload_n rfl rfl ?_
      refine m_geta (t := 0) (k := 3004) rfl rfl ?_
      refine w_iload_n rfl rfl ?_
      obtain ⟨g1, H⟩ := H
      refine m_ald rfl (f := 12) (k := 3004) rfl g1 ?_
      refine w_istore_n rfl rfl ?_
      refine w_goto rfl ?_
      exact wp_ls (sl_s (sl_n (sl_s (sl_s (sl_0))))) H

/-- HoleDeskModel.binderOf(II)I -/
theorem B85 {iv : List (Int × Int)} {L : Nat} {h0 : MH} {d : Nat} {s : SM} {a1 : Int} {a2 : Int} {F : Int → SM → Prop} (H : (0 ≤ a1 ∧ a1 < 3004) ∧ wm iv L h0 d 85 10 [lr 307, ln, li a2, li a1, li (s.2 12 a1)] [] s (qi F)) : cm iv L h0 d 85 [vr 307, vi a1, vi a2] s (qi F) := by
  show wm iv L h0 d 85 0 [lr 307, li a1, li a2] [] s (qi F)
  refine w_iload_n rfl rfl ?_
  refine w_istore_n rfl rfl ?_
  refine w_aload_n rfl rfl ?_
  refine m_geta (t := 0) (k := 3004) rfl rfl ?_
  refine w_iload_n rfl rfl ?_
  obtain ⟨g1, H⟩ := H
  refine m_ald rfl (f := 12) (k := 3004) rfl g1 ?_
  refine w_istore rfl rfl ?_
  exact wp_ls (sl_s (sl_n (sl_s (sl_s (sl_s (sl_0)))))) H

/-- HoleDeskModel.binderOf(II)I at 10 -/
theorem B85_10 {iv : List (Int × Int)} {L : Nat} {h0 : MH} {d : Nat} {s : SM} {l2 : Int} {l3 : Int} {l4 : Int} {F : Int → SM → Prop} (H : ((l4 = (-9) → F (-9) s) ∧ (l4 ≠ (-9) → (0 ≤ l4 ∧ l4 < 3004) ∧ ((s.2 9 l4 = 8 → ((s.2 10 l4 ≠ l2 → wm iv L h0 d 85 10 [lr 307, ln, li l2, li l4, li (s.2 12 l4)] [] s (qi F)) ∧ (s.2 10 l4 = l2 → F l4 s))) ∧ (s.2 9 l4 ≠ 8 → ((s.2 9 l4 ≠ 10 → wm iv L h0 d 85 10 [lr 307, ln, li l2, li l4, li (s.2 12 l4)] [] s (qi F)) ∧ (s.2 9 l4 = 10 → (0 ≤ l3 ∧ l3 < 3004) ∧ ((s.2 13 l3 ≠ 1 → wm iv L h0 d 85 10 [lr 307, ln, li l2, li l4, li (s.2 12 l4)] [] s (qi F)) ∧ (s.2 13 l3 = 1 → ((s.2 10 l4 ≠ l2 → wm iv L h0 d 85 10 [lr 307, ln, li l2, li l4, li (s.2 12 l4)] [] s (qi F)) ∧ (s.2 10 l4 = l2 → F l4 s))))))))))) : wm iv L h0 d 85 10 [lr 307, ln, li l2, li l3, li l4] [] s (qi F) := by
  refine w_iload rfl rfl ?_
  refine w_bipush (n := (-9)) rfl rfl rfl ?_
  refine w_icmp_eq rfl (fun h => ?_) (fun h => ?_)
  · replace H := H.1 h
    refine w_bipush (n := (-9)) rfl rfl rfl ?_
    exact w_iret rfl rfl ⟨_, rfl, H⟩
  · replace H := H.2 h
    refine w_aload_n rfl rfl ?_
    refine m_geta (t := 0) (k := 3004) rfl rfl ?_
    refine w_iload rfl rfl ?_
    obtain ⟨g1, H⟩ := H
    refine m_ald rfl (f := 9) (k := 3004) rfl g1 ?_
    refine w_bipush (n := 8) rfl rfl rfl ?_
    refine w_icmp_eq rfl (fun h => ?_) (fun h => ?_)
    · replace H := H.1 h
      refine w_aload_n rfl rfl ?_
      refine m_geta (t := 0) (k := 3004) rfl rfl ?_
      refine w_iload rfl rfl ?_
      refine m_ald rfl (f := 10) (k := 3004) rfl g1 ?_
      refine w_iload_n rfl rfl ?_
      refine w_icmp_ne rfl (fun h => ?_) (fun h => ?_)
      · replace H := H.1 h
        refine w_iconst (n := 0) rfl rfl ?_
        refine w_istore rfl rfl ?_
        refine w_iload rfl rfl ?_
        refine w_if_eq rfl (fun _ => ?_) (fun h => absurd h (by decide))
        refine w_iload rfl rfl ?_
        refine w_istore_n rfl rfl ?_
        refine w_aload_n rfl rfl ?_
        refine m_geta (t := 0) (k := 3004) rfl rfl ?_
        refine w_iload rfl rfl ?_
        refine m_ald rfl (f := 12) (k := 3004) rfl g1 ?_
        refine w_istore rfl rfl ?_
        refine w_goto rfl ?_
        exact wp_ls (sl_s (sl_n (sl_s (sl_s (sl_s (sl_0)))))) H
      · replace H := H.2 h
        refine w_iconst (n := 1) rfl rfl ?_
        refine w_goto rfl ?_
        refine w_istore rfl rfl ?_
        refine w_iload rfl rfl ?_
        refine w_if_eq rfl (fun h => absurd h (by decide)) (fun _ => ?_)
        refine w_iload rfl rfl ?_
        exact w_iret rfl rfl ⟨_, rfl, H⟩
    · replace H := H.2 h
      refine w_aload_n rfl rfl ?_
      refine m_geta (t := 0) (k := 3004) rfl rfl ?_
      refine w_iload rfl rfl ?_
      refine m_ald rfl (f := 9) (k := 3004) rfl g1 ?_
      refine w_bipush (n := 10) rfl rfl rfl ?_
      refine w_icmp_ne rfl (fun h => ?_) (fun h => ?_)
      · replace H := H.1 h
        refine w_iconst (n := 0) rfl rfl ?_
        refine w_istore rfl rfl ?_
        refine w_iload rfl rfl ?_
        refine w_if_eq rfl (fun _ => ?_) (fun h => absurd h (by decide))
        refine w_iload rfl rfl ?_
        refine w_istore_n rfl rfl ?_
        refine w_aload_n rfl rfl ?_
        refine m_geta (t := 0) (k := 3004) rfl rfl ?_
        refine w_iload rfl rfl ?_
        refine m_ald rfl (f := 12) (k := 3004) rfl g1 ?_
        refine w_istore rfl rfl ?_
        refine w_goto rfl ?_
        exact wp_ls (sl_s (sl_n (sl_s (sl_s (sl_s (sl_0)))))) H
      · replace H := H.2 h
        refine w_aload_n rfl rfl ?_
        refine m_geta (t := 0) (k := 3004) rfl rfl ?_
        refine w_iload_n rfl rfl ?_
        obtain ⟨g2, H⟩ := H
        refine m_ald rfl (f := 13) (k := 3004) rfl g2 ?_
        refine w_iconst (n := 1) rfl rfl ?_
        refine w_icmp_ne rfl (fun h => ?_) (fun h => ?_)
        · replace H := H.1 h
          refine w_iconst (n := 0) rfl rfl ?_
          refine w_istore rfl rfl ?_
          refine w_iload rfl rfl ?_
          refine w_if_eq rfl (fun _ => ?_) (fun h => absurd h (by decide))
          refine w_iload rfl rfl ?_
          refine w_istore_n rfl rfl ?_
          refine w_aload_n rfl rfl ?_
          refine m_geta (t := 0) (k := 3004) rfl rfl ?_
          refine w_iload rfl rfl ?_
          refine m_ald rfl (f := 12) (k := 3004) rfl g1 ?_
          refine w_istore rfl rfl ?_
          refine w_goto rfl ?_
          exact wp_ls (sl_s (sl_n (sl_s (sl_s (sl_s (sl_0)))))) H
        · replace H := H.2 h
          refine w_aload_n rfl rfl ?_
          refine m_geta (t := 0) (k := 3004) rfl rfl ?_
          refine w_iload rfl rfl ?_
          refine m_ald rfl (f := 10) (k := 3004) rfl g1 ?_
          refine w_iload_n rfl rfl ?_
          refine w_icmp_ne rfl (fun h => ?_) (fun h => ?_)
          · replace H := H.1 h
            refine w_iconst (n := 0) rfl rfl ?_
            refine w_istore rfl rfl ?_
            refine w_iload rfl rfl ?_
            refine w_if_eq rfl (fun _ => ?_) (fun h => absurd h (by decide))
            refine w_iload rfl rfl ?_
            refine w_istore_n rfl rfl ?_
            refine w_aload_n rfl rfl ?_
            refine m_geta (t := 0) (k := 3004) rfl rfl ?_
            refine w_iload rfl rfl ?_
            refine m_ald rfl (f := 12) (k := 3004) rfl g1 ?_
            refine w_istore rfl rfl ?_
            refine w_goto rfl ?_
            exact wp_ls (sl_s (sl_n (sl_s (sl_s (sl_s (sl_0)))))) H
          · replace H := H.2 h
            refine w_iconst (n := 1) rfl rfl ?_
            refine w_goto rfl ?_
            refine w_istore rfl rfl ?_
            refine w_iload rfl rfl ?_
            refine w_if_eq rfl (fun h => absurd h (by decide)) (fun _ => ?_)
            refine w_iload rfl rfl ?_
            exact w_iret rfl rfl ⟨_, rfl, H⟩

/-- HoleDeskModel.judge()V -/
theorem B86 {iv : List (Int × Int)} {L : Nat} {h0 : MH} {d : Nat} {s : SM} {F : SM → Prop} (H : cm iv L h0 d 88 [vr 307, vi (s.1 15), vi (-1)] (us s 3 40) (qi fun r2 s1 => F s1)) : cm iv L h0 (d + 1) 86 [vr 307] s (qv F) := by
  show wm iv L h0 (d + 1) 86 0 [lr 307] [] s (qv F)
  refine w_aload_n rfl rfl ?_
  refine w_bipush (n := 40) rfl rfl rfl ?_
  refine m_put rfl rfl rfl ?_
  refine w_aload_n rfl rfl ?_
  refine w_aload_n rfl rfl ?_
  refine m_get rfl rfl ?_
  show wm iv L h0 (d + 1) 86 11 [lr 307] [vi (s.1 15), vr 307] (us s 3 40) (qv F)
  refine w_iconst (n := (-1)) rfl rfl ?_
  refine m_call (as := [vi (s.1 15), vi (-1)]) (r := []) rfl rfl rfl rfl rfl rfl (wc_mono H (Nat.le_refl _) ?_)
  rintro _ s1 ⟨r2, rfl, H⟩
  show wm iv L h0 (d + 1) 86 15 [lr 307] [vi r2] s1 (qv F)
  refine w_pop rfl rfl ?_
  exact w_ret rfl rfl ⟨rfl, H⟩

/-- HoleDeskModel.seenAs(I)I -/
theorem B87 {iv : List (Int × Int)} {L : Nat} {h0 : MH} {d : Nat} {s : SM} {a1 : Int} {F : Int → SM → Prop} (H : (0 ≤ a1 ∧ a1 < 3004) ∧ ((s.2 21 a1 ≤ 0 → F (s.2 19 a1) s) ∧ (0 < s.2 21 a1 → F 0 s))) : cm iv L h0 d 87 [vr 307, vi a1] s (qi F) := by
  show wm iv L h0 d 87 0 [lr 307, li a1] [] s (qi F)
  refine w_aload_n rfl rfl ?_
  refine m_geta (t := 0) (k := 3004) rfl rfl ?_
  refine w_iload_n rfl rfl ?_
  obtain ⟨g1, H⟩ := H
  refine m_ald rfl (f := 21) (k := 3004) rfl g1 ?_
  refine w_if_le rfl (fun h => ?_) (fun h => ?_)
  · replace H := H.1 h
    refine w_aload_n rfl rfl ?_
    refine m_geta (t := 0) (k := 3004) rfl rfl ?_
    refine w_iload_n rfl rfl ?_
    refine m_ald rfl (f := 19) (k := 3004) rfl g1 ?_
    exact w_iret rfl rfl ⟨_, rfl, H⟩
  · replace H := H.2 h
    refine w_iconst (n := 0) rfl rfl ?_
    refine w_goto rfl ?_
    exact w_iret rfl rfl ⟨_, rfl, H⟩

/-- HoleDeskModel.judge(II)I -/
theorem B88 {iv : List (Int × Int)} {L : Nat} {h0 : MH} {d : Nat} {s : SM} {a1 : Int} {a2 : Int} {F : Int → SM → Prop} (H : (0 ≤ a1 ∧ a1 < 3004) ∧ cm iv L h0 d 89 [vr 307, vi a1, vi a2] (ua (ua s 20 a1 a2) 21 a1 0) (qi fun r3 s2 => ((a2 = (-1) → cm iv L h0 d 87 [vr 307, vi a1] (ua s2 19 a1 r3) (qi fun r5 s4 => F r5 s4)) ∧ (a2 ≠ (-1) → ((s2.2 21 a1 ≠ 0 → cm iv L h0 d 87 [vr 307, vi a1] (ua s2 19 a1 r3) (qi fun r7 s6 => F r7 s6)) ∧ (s2.2 21 a1 = 0 → ((s2.2 9 a1 = 10 → cm iv L h0 d 87 [vr 307, vi a1] (ua s2 19 a1 r3) (qi fun r9 s8 => F r9 s8)) ∧ (s2.2 9 a1 ≠ 10 → ((s2.2 9 a1 = 11 → cm iv L h0 d 87 [vr 307, vi a1] (ua s2 19 a1 r3) (qi fun r11 s10 => F r11 s10)) ∧ (s2.2 9 a1 ≠ 11 → cm iv L h0 d 70 [vr 307, vi a2, vi ((ua s2 19 a1 r3).2 19 a1)] (ua s2 19 a1 r3) (qi fun r13 s12 => ((r13 ≠ 0 → cm iv L h0 d 87 [vr 307, vi a1] s12 (qi fun r15 s14 => F r15 s14)) ∧ (r13 = 0 → cm iv L h0 d 87 [vr 307, vi a1] (ua s12 21 a1 6) (qi fun r17 s16 => F r17 s16)))))))))))))) : cm iv L h0 (d + 1) 88 [vr 307, vi a1, vi a2] s (qi F) := by
  show wm iv L h0 (d + 1) 88 0 [lr 307, li a1, li a2] [] s (qi F)
  refine w_aload_n rfl rfl ?_
  refine m_geta (t := 0) (k := 3004) rfl rfl ?_
  refine w_iload_n rfl rfl ?_
  refine w_iload_n rfl rfl ?_
  obtain ⟨g1, H⟩ := H
  refine m_ast rfl (f := 20) (k := 3004) rfl g1 ?_
  refine w_aload_n rfl rfl ?_
  refine m_geta (t := 0) (k := 3004) rfl rfl ?_
  refine w_iload_n rfl rfl ?_
  refine w_iconst (n := 0) rfl rfl ?_
  refine m_ast rfl (f := 21) (k := 3004) rfl g1 ?_
  refine w_aload_n rfl rfl ?_
  refine m_geta (t := 0) (k := 3004) rfl rfl ?_
  refine w_iload_n rfl rfl ?_
  refine w_aload_n rfl rfl ?_
  refine w_iload_n rfl rfl ?_
  refine w_iload_n rfl rfl ?_
  refine m_call (as := [vi a1, vi a2]) (r := [vi a1, vr 320]) rfl rfl rfl rfl rfl rfl (wc_mono H (Nat.le_refl _) ?_)
  rintro _ s2 ⟨r3, rfl, H⟩
  show wm iv L h0 (d + 1) 88 25 [lr 307, li a1, li a2] [vi r3, vi a1, vr 320] s2 (qi F)
  refine m_ast rfl (f := 19) (k := 3004) rfl g1 ?_
  refine w_iload_n rfl rfl ?_
  refine w_iconst (n := (-1)) rfl rfl ?_
  refine w_icmp_eq rfl (fun h => ?_) (fun h => ?_)
  · replace H := H.1 h
    refine w_iconst (n := 0) rfl rfl ?_
    refine w_istore_n rfl rfl ?_
    refine w_iload_n rfl rfl ?_
    refine w_if_eq rfl (fun _ => ?_) (fun h => absurd h (by decide))
    refine w_aload_n rfl rfl ?_
    refine w_iload_n rfl rfl ?_
    refine m_call (as := [vi a1]) (r := []) rfl rfl rfl rfl rfl rfl (wc_mono H (Nat.le_refl _) ?_)
    rintro _ s4 ⟨r5, rfl, H⟩
    show wm iv L h0 (d + 1) 88 99 [lr 307, li a1, li a2, li 0] [vi r5] s4 (qi F)
    exact w_iret rfl rfl ⟨_, rfl, H⟩
  · replace H := H.2 h
    refine w_aload_n rfl rfl ?_
    refine m_geta (t := 0) (k := 3004) rfl rfl ?_
    refine w_iload_n rfl rfl ?_
    refine m_ald rfl (f := 21) (k := 3004) rfl g1 ?_
    show wm iv L h0 (d + 1) 88 37 [lr 307, li a1, li a2] [vi (s2.2 21 a1)] (ua s2 19 a1 r3) (qi F)
    refine w_if_ne rfl (fun h => ?_) (fun h => ?_)
    · replace H := H.1 h
      refine w_iconst (n := 0) rfl rfl ?_
      refine w_istore_n rfl rfl ?_
      refine w_iload_n rfl rfl ?_
      refine w_if_eq rfl (fun _ => ?_) (fun h => absurd h (by decide))
      refine w_aload_n rfl rfl ?_
      refine w_iload_n rfl rfl ?_
      refine m_call (as := [vi a1]) (r := []) rfl rfl rfl rfl rfl rfl (wc_mono H (Nat.le_refl _) ?_)
      rintro _ s6 ⟨r7, rfl, H⟩
      show wm iv L h0 (d + 1) 88 99 [lr 307, li a1, li a2, li 0] [vi r7] s6 (qi F)
      exact w_iret rfl rfl ⟨_, rfl, H⟩
    · replace H := H.2 h
      refine w_aload_n rfl rfl ?_
      refine m_geta (t := 0) (k := 3004) rfl rfl ?_
      refine w_iload_n rfl rfl ?_
      refine m_ald rfl (f := 9) (k := 3004) rfl g1 ?_
      show wm iv L h0 (d + 1) 88 46 [lr 307, li a1, li a2] [vi (s2.2 9 a1)] (ua s2 19 a1 r3) (qi F)
      refine w_bipush (n := 10) rfl rfl rfl ?_
      refine w_icmp_eq rfl (fun h => ?_) (fun h => ?_)
      · replace H := H.1 h
        refine w_iconst (n := 0) rfl rfl ?_
        refine w_istore_n rfl rfl ?_
        refine w_iload_n rfl rfl ?_
        refine w_if_eq rfl (fun _ => ?_) (fun h => absurd h (by decide))
        refine w_aload_n rfl rfl ?_
        refine w_iload_n rfl rfl ?_
        refine m_call (as := [vi a1]) (r := []) rfl rfl rfl rfl rfl rfl (wc_mono H (Nat.le_refl _) ?_)
        rintro _ s8 ⟨r9, rfl, H⟩
        show wm iv L h0 (d + 1) 88 99 [lr 307, li a1, li a2, li 0] [vi r9] s8 (qi F)
        exact w_iret rfl rfl ⟨_, rfl, H⟩
      · replace H := H.2 h
        refine w_aload_n rfl rfl ?_
        refine m_geta (t := 0) (k := 3004) rfl rfl ?_
        refine w_iload_n rfl rfl ?_
        refine m_ald rfl (f := 9) (k := 3004) rfl g1 ?_
        show wm iv L h0 (d + 1) 88 57 [lr 307, li a1, li a2] [vi (s2.2 9 a1)] (ua s2 19 a1 r3) (qi F)
        refine w_bipush (n := 11) rfl rfl rfl ?_
        refine w_icmp_eq rfl (fun h => ?_) (fun h => ?_)
        · replace H := H.1 h
          refine w_iconst (n := 0) rfl rfl ?_
          refine w_istore_n rfl rfl ?_
          refine w_iload_n rfl rfl ?_
          refine w_if_eq rfl (fun _ => ?_) (fun h => absurd h (by decide))
          refine w_aload_n rfl rfl ?_
          refine w_iload_n rfl rfl ?_
          refine m_call (as := [vi a1]) (r := []) rfl rfl rfl rfl rfl rfl (wc_mono H (Nat.le_refl _) ?_)
          rintro _ s10 ⟨r11, rfl, H⟩
          show wm iv L h0 (d + 1) 88 99 [lr 307, li a1, li a2, li 0] [vi r11] s10 (qi F)
          exact w_iret rfl rfl ⟨_, rfl, H⟩
        · replace H := H.2 h
          refine w_iconst (n := 1) rfl rfl ?_
          refine w_goto rfl ?_
          refine w_istore_n rfl rfl ?_
          refine w_iload_n rfl rfl ?_
          refine w_if_eq rfl (fun h => absurd h (by decide)) (fun _ => ?_)
          refine w_aload_n rfl rfl ?_
          refine w_iload_n rfl rfl ?_
          refine w_aload_n rfl rfl ?_
          refine m_geta (t := 0) (k := 3004) rfl rfl ?_
          refine w_iload_n rfl rfl ?_
          refine m_ald rfl (f := 19) (k := 3004) rfl g1 ?_
          refine m_call (as := [vi a2, vi ((ua s2 19 a1 r3).2 19 a1)]) (r := []) rfl rfl rfl rfl rfl rfl (wc_mono H (Nat.le_refl _) ?_)
          rintro _ s12 ⟨r13, rfl, H⟩
          show wm iv L h0 (d + 1) 88 83 [lr 307, li a1, li a2, li 1] [vi r13] s12 (qi F)
          refine w_if_ne rfl (fun h => ?_) (fun h => ?_)
          · replace H := H.1 h
            refine w_aload_n rfl rfl ?_
            refine w_iload_n rfl rfl ?_
            refine m_call (as := [vi a1]) (r := []) rfl rfl rfl rfl rfl rfl (wc_mono H (Nat.le_refl _) ?_)
            rintro _ s14 ⟨r15, rfl, H⟩
            show wm iv L h0 (d + 1) 88 99 [lr 307, li a1, li a2, li 1] [vi r15] s14 (qi F)
            exact w_iret rfl rfl ⟨_, rfl, H⟩
          · replace H := H.2 h
            refine w_aload_n rfl rfl ?_
            refine m_geta (t := 0) (k := 3004) rfl rfl ?_
            refine w_iload_n rfl rfl ?_
            refine w_bipush (n := 6) rfl rfl rfl ?_
            refine m_ast rfl (f := 21) (k := 3004) rfl g1 ?_
            refine w_aload_n rfl rfl ?_
            refine w_iload_n rfl rfl ?_
            refine m_call (as := [vi a1]) (r := []) rfl rfl rfl rfl rfl rfl (wc_mono H (Nat.le_refl _) ?_)
            rintro _ s16 ⟨r17, rfl, H⟩
            show wm iv L h0 (d + 1) 88 99 [lr 307, li a1, li a2, li 1] [vi r17] s16 (qi F)
            exact w_iret rfl rfl ⟨_, rfl, H⟩

/-- HoleDeskModel.make(II)I -/
theorem B89 {iv : List (Int × Int)} {L : Nat} {h0 : MH} {d : Nat} {s : SM} {a1 : Int} {a2 : Int} {F : Int → SM → Prop} (H : (-2147483648 ≤ 3 * a1 ∧ 3 * a1 ≤ 2147483647) ∧ (0 ≤ 3 * a1 ∧ 3 * a1 < 9012) ∧ (-2147483648 ≤ (3 * a1) + 1 ∧ (3 * a1) + 1 ≤ 2147483647) ∧ (0 ≤ (3 * a1) + 1 ∧ (3 * a1) + 1 < 9012) ∧ (-2147483648 ≤ (3 * a1) + 2 ∧ (3 * a1) + 2 ≤ 2147483647) ∧ (0 ≤ (3 * a1) + 2 ∧ (3 * a1) + 2 < 9012) ∧ (0 ≤ a1 ∧ a1 < 3004) ∧ ((s.2 9 a1 = 0 → F 0 s) ∧ (s.2 9 a1 = 1 → F 1 s) ∧ (s.2 9 a1 = 2 → F 2 s) ∧ (s.2 9 a1 = 3 → cm iv L h0 d 85 [vr 307, vi a1, vi (s.2 10 a1)] s (qi fun r9 s8 => ((r9 ≠ (-9) → (0 ≤ r9 ∧ r9 < 3004) ∧ ((s8.2 9 r9 ≠ 8 → (-2147483648 ≤ 3 * r9 ∧ 3 * r9 ≤ 2147483647) ∧ (0 ≤ 3 * r9 ∧ 3 * r9 < 9012) ∧ cm iv L h0 d 87 [vr 307, vi (s8.2 14 (3 * r9))] s8 (qi fun r14 s13 => F r14 s13)) ∧ (s8.2 9 r9 = 8 → F (s8.2 11 r9) s8))) ∧ (r9 = (-9) → F 0 (ua s8 21 a1 1))))) ∧ (s.2 9 a1 = 4 ∨ s.2 9 a1 = 5 ∨ s.2 9 a1 = 6 ∨ s.2 9 a1 = 7 → cm iv L h0 d 88 [vr 307, vi (s.2 14 (3 * a1)), vi 1] s (qi fun r16 s15 => cm iv L h0 d 88 [vr 307, vi (s.2 14 ((3 * a1) + 1)), vi 1] s15 (qi fun r18 s17 => ((s17.2 9 a1 ≠ 7 → F 1 s17) ∧ (s17.2 9 a1 = 7 → F 2 s17))))) ∧ (s.2 9 a1 = 8 → cm iv L h0 d 90 [vr 307, vi a1, vi a2, vi (s.2 14 (3 * a1))] s (qi fun r20 s19 => F r20 s19)) ∧ (s.2 9 a1 = 9 → cm iv L h0 d 91 [vr 307, vi (s.2 14 (3 * a1)), vi (s.2 14 ((3 * a1) + 1))] s (qi fun r22 s21 => F r22 s21)) ∧ (s.2 9 a1 = 10 → cm iv L h0 d 88 [vr 307, vi (s.2 14 (3 * a1)), vi (-1)] s (qi fun r24 s23 => cm iv L h0 d 88 [vr 307, vi (s.2 14 ((3 * a1) + 1)), vi a2] s23 (qi fun r26 s25 => F r26 s25))) ∧ (s.2 9 a1 = 11 → cm iv L h0 d 92 [vr 307, vi a1, vi a2, vi (s.2 14 (3 * a1)), vi (s.2 14 ((3 * a1) + 1)), vi (s.2 14 ((3 * a1) + 2))] s (qi fun r28 s27 => F r28 s27)) ∧ (s.2 9 a1 = 12 → cm iv L h0 d 93 [vr 307, vi a2, vi (s.2 14 (3 * a1)), vi (s.2 14 ((3 * a1) + 1))] s (qi fun r30 s29 => F r30 s29)) ∧ (s.2 9 a1 = 13 ∨ s.2 9 a1 = 14 ∨ s.2 9 a1 < 0 ∨ 15 < s.2 9 a1 → cm iv L h0 d 88 [vr 307, vi (s.2 14 (3 * a1)), vi (-1)] s (qi fun r32 s31 => ((r32 ≠ 0 → (0 ≤ r32 ∧ r32 < 6000) ∧ ((s31.2 4 r32 ≠ 4 → (0 ≤ s.2 14 (3 * a1) ∧ s.2 14 (3 * a1) < 3004) ∧ ((s31.2 21 (s.2 14 (3 * a1)) ≠ 0 → F 0 (ua s31 21 (s.2 14 (3 * a1)) (s31.2 21 (s.2 14 (3 * a1))))) ∧ (s31.2 21 (s.2 14 (3 * a1)) = 0 → F 0 (ua s31 21 (s.2 14 (3 * a1)) 3)))) ∧ (s31.2 4 r32 = 4 → ((s31.2 9 a1 ≠ 13 → F (s31.2 6 r32) s31) ∧ (s31.2 9 a1 = 13 → F (s31.2 5 r32) s31))))) ∧ (r32 = 0 → F 0 s31)))) ∧ (s.2 9 a1 = 15 → cm iv L h0 d 88 [vr 307, vi (s.2 14 (3 * a1)), vi (s.2 11 a1)] s (qi fun r36 s35 => F (s35.2 11 a1) s35)))) : cm iv L h0 (d + 1) 89 [vr 307, vi a1, vi a2] s (qi F) := by
  show wm iv L h0 (d + 1) 89 0 [lr 307, li a1, li a2] [] s (qi F)
  refine w_aload_n rfl rfl ?_
  refine m_geta (t := 0) (k := 9012) rfl rfl ?_
  refine w_iconst (n := 3) rfl rfl ?_
  refine w_iload_n rfl rfl ?_
  obtain ⟨g1, H⟩ := H
  refine w_imul rfl g1 ?_
  obtain ⟨g2, H⟩ := H
  refine m_ald rfl (f := 14) (k := 9012) rfl g2 ?_
  refine w_istore_n rfl rfl ?_
  refine w_aload_n rfl rfl ?_
  refine m_geta (t := 0) (k := 9012) rfl rfl ?_
  refine w_iconst (n := 3) rfl rfl ?_
  refine w_iload_n rfl rfl ?_
  refine w_imul rfl g1 ?_
  refine w_iconst (n := 1) rfl rfl ?_
  obtain ⟨g3, H⟩ := H
  refine w_iadd rfl g3 ?_
  obtain ⟨g4, H⟩ := H
  refine m_ald rfl (f := 14) (k := 9012) rfl g4 ?_
  refine w_istore rfl rfl ?_
  refine w_aload_n rfl rfl ?_
  refine m_geta (t := 0) (k := 9012) rfl rfl ?_
  refine w_iconst (n := 3) rfl rfl ?_
  refine w_iload_n rfl rfl ?_
  refine w_imul rfl g1 ?_
  refine w_iconst (n := 2) rfl rfl ?_
  obtain ⟨g5, H⟩ := H
  refine w_iadd rfl g5 ?_
  obtain ⟨g6, H⟩ := H
  refine m_ald rfl (f := 14) (k := 9012) rfl g6 ?_
  refine w_istore rfl rfl ?_
  refine w_aload_n rfl rfl ?_
  refine m_geta (t := 0) (k := 3004) rfl rfl ?_
  refine w_iload_n rfl rfl ?_
  obtain ⟨g7, H⟩ := H
  refine m_ald rfl (f := 9) (k := 3004) rfl g7 ?_
  have J116 : (s.2 9 a1 = 0) → wm iv L h0 (d + 1) 89 116 [lr 307, li a1, li a2, li (s.2 14 (3 * a1)), li (s.2 14 ((3 * a1) + 1)), li (s.2 14 ((3 * a1) + 2))] [] s (qi F) := fun h => by
    replace H := H.1 h
    refine w_iconst (n := 0) rfl rfl ?_
    exact w_iret rfl rfl ⟨_, rfl, H⟩
  have J118 : (s.2 9 a1 = 1) → wm iv L h0 (d + 1) 89 118 [lr 307, li a1, li a2, li (s.2 14 (3 * a1)), li (s.2 14 ((3 * a1) + 1)), li (s.2 14 ((3 * a1) + 2))] [] s (qi F) := fun h => by
    replace H := H.2.1 h
    refine w_iconst (n := 1) rfl rfl ?_
    exact w_iret rfl rfl ⟨_, rfl, H⟩
  have J120 : (s.2 9 a1 = 2) → wm iv L h0 (d + 1) 89 120 [lr 307, li a1, li a2, li (s.2 14 (3 * a1)), li (s.2 14 ((3 * a1) + 1)), li (s.2 14 ((3 * a1) + 2))] [] s (qi F) := fun h => by
    replace H := H.2.2.1 h
    refine w_iconst (n := 2) rfl rfl ?_
    exact w_iret rfl rfl ⟨_, rfl, H⟩
  have J122 : (s.2 9 a1 = 3) → wm iv L h0 (d + 1) 89 122 [lr 307, li a1, li a2, li (s.2 14 (3 * a1)), li (s.2 14 ((3 * a1) + 1)), li (s.2 14 ((3 * a1) + 2))] [] s (qi F) := fun h => by
    replace H := H.2.2.2.1 h
    refine w_aload_n rfl rfl ?_
    refine w_iload_n rfl rfl ?_
    refine w_aload_n rfl rfl ?_
    refine m_geta (t := 0) (k := 3004) rfl rfl ?_
    refine w_iload_n rfl rfl ?_
    refine m_ald rfl (f := 10) (k := 3004) rfl g7 ?_
    refine m_call (as := [vi a1, vi (s.2 10 a1)]) (r := []) rfl rfl rfl rfl rfl rfl (wc_mono H (Nat.le_refl _) ?_)
    rintro _ s8 ⟨r9, rfl, H⟩
    show wm iv L h0 (d + 1) 89 133 [lr 307, li a1, li a2, li (s.2 14 (3 * a1)), li (s.2 14 ((3 * a1) + 1)), li (s.2 14 ((3 * a1) + 2))] [vi r9] s8 (qi F)
    refine w_istore rfl rfl ?_
    refine w_iload rfl rfl ?_
    refine w_bipush (n := (-9)) rfl rfl rfl ?_
    refine w_icmp_ne rfl (fun h => ?_) (fun h => ?_)
    · replace H := H.1 h
      refine w_aload_n rfl rfl ?_
      refine m_geta (t := 0) (k := 3004) rfl rfl ?_
      refine w_iload rfl rfl ?_
      obtain ⟨g10, H⟩ := H
      refine m_ald rfl (f := 9) (k := 3004) rfl g10 ?_
      refine w_bipush (n := 8) rfl rfl rfl ?_
      refine w_icmp_ne rfl (fun h => ?_) (fun h => ?_)
      · replace H := H.1 h
        refine w_aload_n rfl rfl ?_
        refine w_aload_n rfl rfl ?_
        refine m_geta (t := 0) (k := 9012) rfl rfl ?_
        refine w_iconst (n := 3) rfl rfl ?_
        refine w_iload rfl rfl ?_
        obtain ⟨g11, H⟩ := H
        refine w_imul rfl g11 ?_
        obtain ⟨g12, H⟩ := H
        refine m_ald rfl (f := 14) (k := 9012) rfl g12 ?_
        refine m_call (as := [vi (s8.2 14 (3 * r9))]) (r := []) rfl rfl rfl rfl rfl rfl (wc_mono H (Nat.le_refl _) ?_)
        rintro _ s13 ⟨r14, rfl, H⟩
        show wm iv L h0 (d + 1) 89 186 [lr 307, li a1, li a2, li (s.2 14 (3 * a1)), li (s.2 14 ((3 * a1) + 1)), li (s.2 14 ((3 * a1) + 2)), li r9] [vi r14] s13 (qi F)
        exact w_iret rfl rfl ⟨_, rfl, H⟩
      · replace H := H.2 h
        refine w_aload_n rfl rfl ?_
        refine m_geta (t := 0) (k := 3004) rfl rfl ?_
        refine w_iload rfl rfl ?_
        refine m_ald rfl (f := 11) (k := 3004) rfl g10 ?_
        refine w_goto rfl ?_
        exact w_iret rfl rfl ⟨_, rfl, H⟩
    · replace H := H.2 h
      refine w_aload_n rfl rfl ?_
      refine m_geta (t := 0) (k := 3004) rfl rfl ?_
      refine w_iload_n rfl rfl ?_
      refine w_iconst (n := 1) rfl rfl ?_
      refine m_ast rfl (f := 21) (k := 3004) rfl g7 ?_
      refine w_iconst (n := 0) rfl rfl ?_
      exact w_iret rfl rfl ⟨_, rfl, H⟩
  have J187 : (s.2 9 a1 = 4 ∨ s.2 9 a1 = 5 ∨ s.2 9 a1 = 6 ∨ s.2 9 a1 = 7) → wm iv L h0 (d + 1) 89 187 [lr 307, li a1, li a2, li (s.2 14 (3 * a1)), li (s.2 14 ((3 * a1) + 1)), li (s.2 14 ((3 * a1) + 2))] [] s (qi F) := fun h => by
    replace H := H.2.2.2.2.1 h
    refine w_aload_n rfl rfl ?_
    refine w_iload_n rfl rfl ?_
    refine w_iconst (n := 1) rfl rfl ?_
    refine m_call (as := [vi (s.2 14 (3 * a1)), vi 1]) (r := []) rfl rfl rfl rfl rfl rfl (wc_mono H (Nat.le_refl _) ?_)
    rintro _ s15 ⟨r16, rfl, H⟩
    show wm iv L h0 (d + 1) 89 193 [lr 307, li a1, li a2, li (s.2 14 (3 * a1)), li (s.2 14 ((3 * a1) + 1)), li (s.2 14 ((3 * a1) + 2))] [vi r16] s15 (qi F)
    refine w_istore rfl rfl ?_
    refine w_aload_n rfl rfl ?_
    refine w_iload rfl rfl ?_
    refine w_iconst (n := 1) rfl rfl ?_
    refine m_call (as := [vi (s.2 14 ((3 * a1) + 1)), vi 1]) (r := []) rfl rfl rfl rfl rfl rfl (wc_mono H (Nat.le_refl _) ?_)
    rintro _ s17 ⟨r18, rfl, H⟩
    show wm iv L h0 (d + 1) 89 202 [lr 307, li a1, li a2, li (s.2 14 (3 * a1)), li (s.2 14 ((3 * a1) + 1)), li (s.2 14 ((3 * a1) + 2)), li r16] [vi r18] s17 (qi F)
    refine w_istore rfl rfl ?_
    refine w_aload_n rfl rfl ?_
    refine m_geta (t := 0) (k := 3004) rfl rfl ?_
    refine w_iload_n rfl rfl ?_
    refine m_ald rfl (f := 9) (k := 3004) rfl g7 ?_
    refine w_bipush (n := 7) rfl rfl rfl ?_
    refine w_icmp_ne rfl (fun h => ?_) (fun h => ?_)
    · replace H := H.1 h
      refine w_iconst (n := 1) rfl rfl ?_
      exact w_iret rfl rfl ⟨_, rfl, H⟩
    · replace H := H.2 h
      refine w_iconst (n := 2) rfl rfl ?_
      refine w_goto rfl ?_
      exact w_iret rfl rfl ⟨_, rfl, H⟩
  have J221 : (s.2 9 a1 = 8) → wm iv L h0 (d + 1) 89 221 [lr 307, li a1, li a2, li (s.2 14 (3 * a1)), li (s.2 14 ((3 * a1) + 1)), li (s.2 14 ((3 * a1) + 2))] [] s (qi F) := fun h => by
    replace H := H.2.2.2.2.2.1 h
    refine w_aload_n rfl rfl ?_
    refine w_iload_n rfl rfl ?_
    refine w_iload_n rfl rfl ?_
    refine w_iload_n rfl rfl ?_
    refine m_call (as := [vi a1, vi a2, vi (s.2 14 (3 * a1))]) (r := []) rfl rfl rfl rfl rfl rfl (wc_mono H (Nat.le_refl _) ?_)
    rintro _ s19 ⟨r20, rfl, H⟩
    show wm iv L h0 (d + 1) 89 228 [lr 307, li a1, li a2, li (s.2 14 (3 * a1)), li (s.2 14 ((3 * a1) + 1)), li (s.2 14 ((3 * a1) + 2))] [vi r20] s19 (qi F)
    exact w_iret rfl rfl ⟨_, rfl, H⟩
  have J229 : (s.2 9 a1 = 9) → wm iv L h0 (d + 1) 89 229 [lr 307, li a1, li a2, li (s.2 14 (3 * a1)), li (s.2 14 ((3 * a1) + 1)), li (s.2 14 ((3 * a1) + 2))] [] s (qi F) := fun h => by
    replace H := H.2.2.2.2.2.2.1 h
    refine w_aload_n rfl rfl ?_
    refine w_iload_n rfl rfl ?_
    refine w_iload rfl rfl ?_
    refine m_call (as := [vi (s.2 14 (3 * a1)), vi (s.2 14 ((3 * a1) + 1))]) (r := []) rfl rfl rfl rfl rfl rfl (wc_mono H (Nat.le_refl _) ?_)
    rintro _ s21 ⟨r22, rfl, H⟩
    show wm iv L h0 (d + 1) 89 236 [lr 307, li a1, li a2, li (s.2 14 (3 * a1)), li (s.2 14 ((3 * a1) + 1)), li (s.2 14 ((3 * a1) + 2))] [vi r22] s21 (qi F)
    exact w_iret rfl rfl ⟨_, rfl, H⟩
  have J237 : (s.2 9 a1 = 10) → wm iv L h0 (d + 1) 89 237 [lr 307, li a1, li a2, li (s.2 14 (3 * a1)), li (s.2 14 ((3 * a1) + 1)), li (s.2 14 ((3 * a1) + 2))] [] s (qi F) := fun h => by
    replace H := H.2.2.2.2.2.2.2.1 h
    refine w_aload_n rfl rfl ?_
    refine w_iload_n rfl rfl ?_
    refine w_iconst (n := (-1)) rfl rfl ?_
    refine m_call (as := [vi (s.2 14 (3 * a1)), vi (-1)]) (r := []) rfl rfl rfl rfl rfl rfl (wc_mono H (Nat.le_refl _) ?_)
    rintro _ s23 ⟨r24, rfl, H⟩
    show wm iv L h0 (d + 1) 89 243 [lr 307, li a1, li a2, li (s.2 14 (3 * a1)), li (s.2 14 ((3 * a1) + 1)), li (s.2 14 ((3 * a1) + 2))] [vi r24] s23 (qi F)
    refine w_istore rfl rfl ?_
    refine w_aload_n rfl rfl ?_
    refine w_iload rfl rfl ?_
    refine w_iload_n rfl rfl ?_
    refine m_call (as := [vi (s.2 14 ((3 * a1) + 1)), vi a2]) (r := []) rfl rfl rfl rfl rfl rfl (wc_mono H (Nat.le_refl _) ?_)
    rintro _ s25 ⟨r26, rfl, H⟩
    show wm iv L h0 (d + 1) 89 252 [lr 307, li a1, li a2, li (s.2 14 (3 * a1)), li (s.2 14 ((3 * a1) + 1)), li (s.2 14 ((3 * a1) + 2)), li r24] [vi r26] s25 (qi F)
    exact w_iret rfl rfl ⟨_, rfl, H⟩
  have J253 : (s.2 9 a1 = 11) → wm iv L h0 (d + 1) 89 253 [lr 307, li a1, li a2, li (s.2 14 (3 * a1)), li (s.2 14 ((3 * a1) + 1)), li (s.2 14 ((3 * a1) + 2))] [] s (qi F) := fun h => by
    replace H := H.2.2.2.2.2.2.2.2.1 h
    refine w_aload_n rfl rfl ?_
    refine w_iload_n rfl rfl ?_
    refine w_iload_n rfl rfl ?_
    refine w_iload_n rfl rfl ?_
    refine w_iload rfl rfl ?_
    refine w_iload rfl rfl ?_
    refine m_call (as := [vi a1, vi a2, vi (s.2 14 (3 * a1)), vi (s.2 14 ((3 * a1) + 1)), vi (s.2 14 ((3 * a1) + 2))]) (r := []) rfl rfl rfl rfl rfl rfl (wc_mono H (Nat.le_refl _) ?_)
    rintro _ s27 ⟨r28, rfl, H⟩
    show wm iv L h0 (d + 1) 89 264 [lr 307, li a1, li a2, li (s.2 14 (3 * a1)), li (s.2 14 ((3 * a1) + 1)), li (s.2 14 ((3 * a1) + 2))] [vi r28] s27 (qi F)
    exact w_iret rfl rfl ⟨_, rfl, H⟩
  have J265 : (s.2 9 a1 = 12) → wm iv L h0 (d + 1) 89 265 [lr 307, li a1, li a2, li (s.2 14 (3 * a1)), li (s.2 14 ((3 * a1) + 1)), li (s.2 14 ((3 * a1) + 2))] [] s (qi F) := fun h => by
    replace H := H.2.2.2.2.2.2.2.2.2.1 h
    refine w_aload_n rfl rfl ?_
    refine w_iload_n rfl rfl ?_
    refine w_iload_n rfl rfl ?_
    refine w_iload rfl rfl ?_
    refine m_call (as := [vi a2, vi (s.2 14 (3 * a1)), vi (s.2 14 ((3 * a1) + 1))]) (r := []) rfl rfl rfl rfl rfl rfl (wc_mono H (Nat.le_refl _) ?_)
    rintro _ s29 ⟨r30, rfl, H⟩
    show wm iv L h0 (d + 1) 89 273 [lr 307, li a1, li a2, li (s.2 14 (3 * a1)), li (s.2 14 ((3 * a1) + 1)), li (s.2 14 ((3 * a1) + 2))] [vi r30] s29 (qi F)
    exact w_iret rfl rfl ⟨_, rfl, H⟩
  have J294 : (s.2 9 a1 = 13 ∨ s.2 9 a1 = 14 ∨ s.2 9 a1 < 0 ∨ 15 < s.2 9 a1) → wm iv L h0 (d + 1) 89 294 [lr 307, li a1, li a2, li (s.2 14 (3 * a1)), li (s.2 14 ((3 * a1) + 1)), li (s.2 14 ((3 * a1) + 2))] [] s (qi F) := fun h => by
    replace H := H.2.2.2.2.2.2.2.2.2.2.1 h
    refine w_aload_n rfl rfl ?_
    refine w_iload_n rfl rfl ?_
    refine w_iconst (n := (-1)) rfl rfl ?_
    refine m_call (as := [vi (s.2 14 (3 * a1)), vi (-1)]) (r := []) rfl rfl rfl rfl rfl rfl (wc_mono H (Nat.le_refl _) ?_)
    rintro _ s31 ⟨r32, rfl, H⟩
    show wm iv L h0 (d + 1) 89 300 [lr 307, li a1, li a2, li (s.2 14 (3 * a1)), li (s.2 14 ((3 * a1) + 1)), li (s.2 14 ((3 * a1) + 2))] [vi r32] s31 (qi F)
    refine w_istore rfl rfl ?_
    refine w_iload rfl rfl ?_
    refine w_if_ne rfl (fun h => ?_) (fun h => ?_)
    · replace H := H.1 h
      refine w_aload_n rfl rfl ?_
      refine m_geta (t := 0) (k := 6000) rfl rfl ?_
      refine w_iload rfl rfl ?_
      obtain ⟨g33, H⟩ := H
      refine m_ald rfl (f := 4) (k := 6000) rfl g33 ?_
      refine w_iconst (n := 4) rfl rfl ?_
      refine w_icmp_ne rfl (fun h => ?_) (fun h => ?_)
      · replace H := H.1 h
        refine w_aload_n rfl rfl ?_
        refine m_geta (t := 0) (k := 3004) rfl rfl ?_
        refine w_iload_n rfl rfl ?_
        refine w_aload_n rfl rfl ?_
        refine m_geta (t := 0) (k := 3004) rfl rfl ?_
        refine w_iload_n rfl rfl ?_
        obtain ⟨g34, H⟩ := H
        refine m_ald rfl (f := 21) (k := 3004) rfl g34 ?_
        refine w_if_ne rfl (fun h => ?_) (fun h => ?_)
        · replace H := H.1 h
          refine w_aload_n rfl rfl ?_
          refine m_geta (t := 0) (k := 3004) rfl rfl ?_
          refine w_iload_n rfl rfl ?_
          refine m_ald rfl (f := 21) (k := 3004) rfl g34 ?_
          refine m_ast rfl (f := 21) (k := 3004) rfl g34 ?_
          refine w_iconst (n := 0) rfl rfl ?_
          exact w_iret rfl rfl ⟨_, rfl, H⟩
        · replace H := H.2 h
          refine w_iconst (n := 3) rfl rfl ?_
          refine w_goto rfl ?_
          refine m_ast rfl (f := 21) (k := 3004) rfl g34 ?_
          refine w_iconst (n := 0) rfl rfl ?_
          exact w_iret rfl rfl ⟨_, rfl, H⟩
      · replace H := H.2 h
        refine w_aload_n rfl rfl ?_
        refine m_geta (t := 0) (k := 3004) rfl rfl ?_
        refine w_iload_n rfl rfl ?_
        refine m_ald rfl (f := 9) (k := 3004) rfl g7 ?_
        refine w_bipush (n := 13) rfl rfl rfl ?_
        refine w_icmp_ne rfl (fun h => ?_) (fun h => ?_)
        · replace H := H.1 h
          refine w_aload_n rfl rfl ?_
          refine m_geta (t := 0) (k := 6000) rfl rfl ?_
          refine w_iload rfl rfl ?_
          refine m_ald rfl (f := 6) (k := 6000) rfl g33 ?_
          exact w_iret rfl rfl ⟨_, rfl, H⟩
        · replace H := H.2 h
          refine w_aload_n rfl rfl ?_
          refine m_geta (t := 0) (k := 6000) rfl rfl ?_
          refine w_iload rfl rfl ?_
          refine m_ald rfl (f := 5) (k := 6000) rfl g33 ?_
          refine w_goto rfl ?_
          exact w_iret rfl rfl ⟨_, rfl, H⟩
    · replace H := H.2 h
      refine w_iconst (n := 0) rfl rfl ?_
      exact w_iret rfl rfl ⟨_, rfl, H⟩
  have J274 : (s.2 9 a1 = 15) → wm iv L h0 (d + 1) 89 274 [lr 307, li a1, li a2, li (s.2 14 (3 * a1)), li (s.2 14 ((3 * a1) + 1)), li (s.2 14 ((3 * a1) + 2))] [] s (qi F) := fun h => by
    replace H := H.2.2.2.2.2.2.2.2.2.2.2 h
    refine w_aload_n rfl rfl ?_
    refine w_iload_n rfl rfl ?_
    refine w_aload_n rfl rfl ?_
    refine m_geta (t := 0) (k := 3004) rfl rfl ?_
    refine w_iload_n rfl rfl ?_
    refine m_ald rfl (f := 11) (k := 3004) rfl g7 ?_
    refine m_call (as := [vi (s.2 14 (3 * a1)), vi (s.2 11 a1)]) (r := []) rfl rfl rfl rfl rfl rfl (wc_mono H (Nat.le_refl _) ?_)
    rintro _ s35 ⟨r36, rfl, H⟩
    show wm iv L h0 (d + 1) 89 285 [lr 307, li a1, li a2, li (s.2 14 (3 * a1)), li (s.2 14 ((3 * a1) + 1)), li (s.2 14 ((3 * a1) + 2))] [vi r36] s35 (qi F)
    refine w_istore rfl rfl ?_
    refine w_aload_n rfl rfl ?_
    refine m_geta (t := 0) (k := 3004) rfl rfl ?_
    refine w_iload_n rfl rfl ?_
    refine m_ald rfl (f := 11) (k := 3004) rfl g7 ?_
    exact w_iret rfl rfl ⟨_, rfl, H⟩
  refine w_tsw (td := 294) (ts := [116, 118, 120, 122, 187, 187, 187, 187, 221, 229, 237, 253, 265, 294, 294, 274]) rfl rfl rfl rfl rfl rfl (fun h => J294 (by omega)) ?_
  exact swA_c (fun h => J116 (by omega)) (swA_c (fun h => J118 (by omega)) (swA_c (fun h => J120 (by omega)) (swA_c (fun h => J122 (by omega)) (swA_c (fun h => J187 (by omega)) (swA_c (fun h => J187 (by omega)) (swA_c (fun h => J187 (by omega)) (swA_c (fun h => J187 (by omega)) (swA_c (fun h => J221 (by omega)) (swA_c (fun h => J229 (by omega)) (swA_c (fun h => J237 (by omega)) (swA_c (fun h => J253 (by omega)) (swA_c (fun h => J265 (by omega)) (swA_c (fun h => J294 (by omega)) (swA_c (fun h => J294 (by omega)) (swA_c (fun h => J274 (by omega)) (swA_n))))))))))))))))

/-- HoleDeskModel.makeDef(III)I -/
theorem B90 {iv : List (Int × Int)} {L : Nat} {h0 : MH} {d : Nat} {s : SM} {a1 : Int} {a2 : Int} {a3 : Int} {F : Int → SM → Prop} (H : (0 ≤ a1 ∧ a1 < 3004) ∧ ((a2 = (-1) → ((a2 ≠ 0 → cm iv L h0 d 88 [vr 307, vi a3, vi (-1)] s (qi fun r3 s2 => cm iv L h0 d 65 [vr 307, vi 3, vi (s.2 11 a1), vi r3] s2 (qi fun r5 s4 => F r5 s4))) ∧ (a2 = 0 → cm iv L h0 d 88 [vr 307, vi a3, vi 0] s (qi fun r7 s6 => cm iv L h0 d 65 [vr 307, vi 3, vi (s.2 11 a1), vi r7] s6 (qi fun r9 s8 => F r9 s8))))) ∧ (a2 ≠ (-1) → (0 ≤ a2 ∧ a2 < 6000) ∧ ((s.2 4 a2 ≠ 3 → ((a2 ≠ 0 → cm iv L h0 d 88 [vr 307, vi a3, vi (-1)] s (qi fun r12 s11 => cm iv L h0 d 65 [vr 307, vi 3, vi (s.2 11 a1), vi r12] s11 (qi fun r14 s13 => F r14 s13))) ∧ (a2 = 0 → cm iv L h0 d 88 [vr 307, vi a3, vi 0] s (qi fun r16 s15 => cm iv L h0 d 65 [vr 307, vi 3, vi (s.2 11 a1), vi r16] s15 (qi fun r18 s17 => F r18 s17))))) ∧ (s.2 4 a2 = 3 → cm iv L h0 d 88 [vr 307, vi a3, vi (s.2 6 a2)] s (qi fun r20 s19 => cm iv L h0 d 70 [vr 307, vi (s.2 11 a1), vi (s19.2 5 a2)] s19 (qi fun r22 s21 => ((r22 = 0 → cm iv L h0 d 65 [vr 307, vi 3, vi (s.2 11 a1), vi r20] (ua s21 21 a1 4) (qi fun r24 s23 => F r24 s23)) ∧ (r22 ≠ 0 → cm iv L h0 d 65 [vr 307, vi 3, vi (s.2 11 a1), vi r20] (ua s21 21 a1 0) (qi fun r26 s25 => F r26 s25)))))))))) : cm iv L h0 (d + 1) 90 [vr 307, vi a1, vi a2, vi a3] s (qi F) := by
  show wm iv L h0 (d + 1) 90 0 [lr 307, li a1, li a2, li a3] [] s (qi F)
  refine w_aload_n rfl rfl ?_
  refine m_geta (t := 0) (k := 3004) rfl rfl ?_
  refine w_iload_n rfl rfl ?_
  obtain ⟨g1, H⟩ := H
  refine m_ald rfl (f := 11) (k := 3004) rfl g1 ?_
  refine w_istore rfl rfl ?_
  refine w_iload_n rfl rfl ?_
  refine w_iconst (n := (-1)) rfl rfl ?_
  refine w_icmp_eq rfl (fun h => ?_) (fun h => ?_)
  · replace H := H.1 h
    refine w_aload_n rfl rfl ?_
    refine w_iconst (n := 3) rfl rfl ?_
    refine w_iload rfl rfl ?_
    refine w_aload_n rfl rfl ?_
    refine w_iload_n rfl rfl ?_
    refine w_iload_n rfl rfl ?_
    refine w_if_ne rfl (fun h => ?_) (fun h => ?_)
    · replace H := H.1 h
      refine w_iconst (n := (-1)) rfl rfl ?_
      refine m_call (as := [vi a3, vi (-1)]) (r := [vi (s.2 11 a1), vi 3, vr 307]) rfl rfl rfl rfl rfl rfl (wc_mono H (Nat.le_refl _) ?_)
      rintro _ s2 ⟨r3, rfl, H⟩
      show wm iv L h0 (d + 1) 90 90 [lr 307, li a1, li a2, li a3, li (s.2 11 a1)] [vi r3, vi (s.2 11 a1), vi 3, vr 307] s2 (qi F)
      refine m_call (as := [vi 3, vi (s.2 11 a1), vi r3]) (r := []) rfl rfl rfl rfl rfl rfl (wc_mono H (Nat.le_refl _) ?_)
      rintro _ s4 ⟨r5, rfl, H⟩
      show wm iv L h0 (d + 1) 90 93 [lr 307, li a1, li a2, li a3, li (s.2 11 a1)] [vi r5] s4 (qi F)
      exact w_iret rfl rfl ⟨_, rfl, H⟩
    · replace H := H.2 h
      refine w_iconst (n := 0) rfl rfl ?_
      refine w_goto rfl ?_
      refine m_call (as := [vi a3, vi 0]) (r := [vi (s.2 11 a1), vi 3, vr 307]) rfl rfl rfl rfl rfl rfl (wc_mono H (Nat.le_refl _) ?_)
      rintro _ s6 ⟨r7, rfl, H⟩
      show wm iv L h0 (d + 1) 90 90 [lr 307, li a1, li a2, li a3, li (s.2 11 a1)] [vi r7, vi (s.2 11 a1), vi 3, vr 307] s6 (qi F)
      refine m_call (as := [vi 3, vi (s.2 11 a1), vi r7]) (r := []) rfl rfl rfl rfl rfl rfl (wc_mono H (Nat.le_refl _) ?_)
      rintro _ s8 ⟨r9, rfl, H⟩
      show wm iv L h0 (d + 1) 90 93 [lr 307, li a1, li a2, li a3, li (s.2 11 a1)] [vi r9] s8 (qi F)
      exact w_iret rfl rfl ⟨_, rfl, H⟩
  · replace H := H.2 h
    refine w_aload_n rfl rfl ?_
    refine m_geta (t := 0) (k := 6000) rfl rfl ?_
    refine w_iload_n rfl rfl ?_
    obtain ⟨g10, H⟩ := H
    refine m_ald rfl (f := 4) (k := 6000) rfl g10 ?_
    refine w_iconst (n := 3) rfl rfl ?_
    refine w_icmp_ne rfl (fun h => ?_) (fun h => ?_)
    · replace H := H.1 h
      refine w_aload_n rfl rfl ?_
      refine w_iconst (n := 3) rfl rfl ?_
      refine w_iload rfl rfl ?_
      refine w_aload_n rfl rfl ?_
      refine w_iload_n rfl rfl ?_
      refine w_iload_n rfl rfl ?_
      refine w_if_ne rfl (fun h => ?_) (fun h => ?_)
      · replace H := H.1 h
        refine w_iconst (n := (-1)) rfl rfl ?_
        refine m_call (as := [vi a3, vi (-1)]) (r := [vi (s.2 11 a1), vi 3, vr 307]) rfl rfl rfl rfl rfl rfl (wc_mono H (Nat.le_refl _) ?_)
        rintro _ s11 ⟨r12, rfl, H⟩
        show wm iv L h0 (d + 1) 90 90 [lr 307, li a1, li a2, li a3, li (s.2 11 a1)] [vi r12, vi (s.2 11 a1), vi 3, vr 307] s11 (qi F)
        refine m_call (as := [vi 3, vi (s.2 11 a1), vi r12]) (r := []) rfl rfl rfl rfl rfl rfl (wc_mono H (Nat.le_refl _) ?_)
        rintro _ s13 ⟨r14, rfl, H⟩
        show wm iv L h0 (d + 1) 90 93 [lr 307, li a1, li a2, li a3, li (s.2 11 a1)] [vi r14] s13 (qi F)
        exact w_iret rfl rfl ⟨_, rfl, H⟩
      · replace H := H.2 h
        refine w_iconst (n := 0) rfl rfl ?_
        refine w_goto rfl ?_
        refine m_call (as := [vi a3, vi 0]) (r := [vi (s.2 11 a1), vi 3, vr 307]) rfl rfl rfl rfl rfl rfl (wc_mono H (Nat.le_refl _) ?_)
        rintro _ s15 ⟨r16, rfl, H⟩
        show wm iv L h0 (d + 1) 90 90 [lr 307, li a1, li a2, li a3, li (s.2 11 a1)] [vi r16, vi (s.2 11 a1), vi 3, vr 307] s15 (qi F)
        refine m_call (as := [vi 3, vi (s.2 11 a1), vi r16]) (r := []) rfl rfl rfl rfl rfl rfl (wc_mono H (Nat.le_refl _) ?_)
        rintro _ s17 ⟨r18, rfl, H⟩
        show wm iv L h0 (d + 1) 90 93 [lr 307, li a1, li a2, li a3, li (s.2 11 a1)] [vi r18] s17 (qi F)
        exact w_iret rfl rfl ⟨_, rfl, H⟩
    · replace H := H.2 h
      refine w_aload_n rfl rfl ?_
      refine w_iload_n rfl rfl ?_
      refine w_aload_n rfl rfl ?_
      refine m_geta (t := 0) (k := 6000) rfl rfl ?_
      refine w_iload_n rfl rfl ?_
      refine m_ald rfl (f := 6) (k := 6000) rfl g10 ?_
      refine m_call (as := [vi a3, vi (s.2 6 a2)]) (r := []) rfl rfl rfl rfl rfl rfl (wc_mono H (Nat.le_refl _) ?_)
      rintro _ s19 ⟨r20, rfl, H⟩
      show wm iv L h0 (d + 1) 90 34 [lr 307, li a1, li a2, li a3, li (s.2 11 a1)] [vi r20] s19 (qi F)
      refine w_istore rfl rfl ?_
      refine w_aload_n rfl rfl ?_
      refine m_geta (t := 0) (k := 3004) rfl rfl ?_
      refine w_iload_n rfl rfl ?_
      refine w_aload_n rfl rfl ?_
      refine w_iload rfl rfl ?_
      refine w_aload_n rfl rfl ?_
      refine m_geta (t := 0) (k := 6000) rfl rfl ?_
      refine w_iload_n rfl rfl ?_
      refine m_ald rfl (f := 5) (k := 6000) rfl g10 ?_
      refine m_call (as := [vi (s.2 11 a1), vi (s19.2 5 a2)]) (r := [vi a1, vr 322]) rfl rfl rfl rfl rfl rfl (wc_mono H (Nat.le_refl _) ?_)
      rintro _ s21 ⟨r22, rfl, H⟩
      show wm iv L h0 (d + 1) 90 53 [lr 307, li a1, li a2, li a3, li (s.2 11 a1), li r20] [vi r22, vi a1, vr 322] s21 (qi F)
      refine w_if_eq rfl (fun h => ?_) (fun h => ?_)
      · replace H := H.1 h
        refine w_iconst (n := 4) rfl rfl ?_
        refine m_ast rfl (f := 21) (k := 3004) rfl g1 ?_
        refine w_aload_n rfl rfl ?_
        refine w_iconst (n := 3) rfl rfl ?_
        refine w_iload rfl rfl ?_
        refine w_iload rfl rfl ?_
        refine m_call (as := [vi 3, vi (s.2 11 a1), vi r20]) (r := []) rfl rfl rfl rfl rfl rfl (wc_mono H (Nat.le_refl _) ?_)
        rintro _ s23 ⟨r24, rfl, H⟩
        show wm iv L h0 (d + 1) 90 71 [lr 307, li a1, li a2, li a3, li (s.2 11 a1), li r20] [vi r24] s23 (qi F)
        exact w_iret rfl rfl ⟨_, rfl, H⟩
      · replace H := H.2 h
        refine w_iconst (n := 0) rfl rfl ?_
        refine w_goto rfl ?_
        refine m_ast rfl (f := 21) (k := 3004) rfl g1 ?_
        refine w_aload_n rfl rfl ?_
        refine w_iconst (n := 3) rfl rfl ?_
        refine w_iload rfl rfl ?_
        refine w_iload rfl rfl ?_
        refine m_call (as := [vi 3, vi (s.2 11 a1), vi r20]) (r := []) rfl rfl rfl rfl rfl rfl (wc_mono H (Nat.le_refl _) ?_)
        rintro _ s25 ⟨r26, rfl, H⟩
        show wm iv L h0 (d + 1) 90 71 [lr 307, li a1, li a2, li a3, li (s.2 11 a1), li r20] [vi r26] s25 (qi F)
        exact w_iret rfl rfl ⟨_, rfl, H⟩

/-- HoleDeskModel.makeUse(II)I -/
theorem B91 {iv : List (Int × Int)} {L : Nat} {h0 : MH} {d : Nat} {s : SM} {a1 : Int} {a2 : Int} {F : Int → SM → Prop} (H : cm iv L h0 d 88 [vr 307, vi a1, vi (-1)] s (qi fun r2 s1 => ((r2 = 0 → ((r2 = 0 → cm iv L h0 d 88 [vr 307, vi a2, vi 0] s1 (qi fun r4 s3 => F 0 s3)) ∧ (r2 ≠ 0 → (0 ≤ a1 ∧ a1 < 3004) ∧ ((s1.2 21 a1 ≠ 0 → cm iv L h0 d 88 [vr 307, vi a2, vi 0] s1 (qi fun r7 s6 => F 0 s6)) ∧ (s1.2 21 a1 = 0 → cm iv L h0 d 88 [vr 307, vi a2, vi 0] (ua s1 21 a1 2) (qi fun r9 s8 => F 0 s8)))))) ∧ (r2 ≠ 0 → (0 ≤ r2 ∧ r2 < 6000) ∧ ((s1.2 4 r2 ≠ 3 → ((r2 = 0 → cm iv L h0 d 88 [vr 307, vi a2, vi 0] s1 (qi fun r12 s11 => F 0 s11)) ∧ (r2 ≠ 0 → (0 ≤ a1 ∧ a1 < 3004) ∧ ((s1.2 21 a1 ≠ 0 → cm iv L h0 d 88 [vr 307, vi a2, vi 0] s1 (qi fun r15 s14 => F 0 s14)) ∧ (s1.2 21 a1 = 0 → cm iv L h0 d 88 [vr 307, vi a2, vi 0] (ua s1 21 a1 2) (qi fun r17 s16 => F 0 s16)))))) ∧ (s1.2 4 r2 = 3 → cm iv L h0 d 88 [vr 307, vi a2, vi (s1.2 5 r2)] s1 (qi fun r19 s18 => F (s18.2 6 r2) s18))))))) : cm iv L h0 (d + 1) 91 [vr 307, vi a1, vi a2] s (qi F) := by
  show wm iv L h0 (d + 1) 91 0 [lr 307, li a1, li a2] [] s (qi F)
  refine w_aload_n rfl rfl ?_
  refine w_iload_n rfl rfl ?_
  refine w_iconst (n := (-1)) rfl rfl ?_
  refine m_call (as := [vi a1, vi (-1)]) (r := []) rfl rfl rfl rfl rfl rfl (wc_mono H (Nat.le_refl _) ?_)
  rintro _ s1 ⟨r2, rfl, H⟩
  show wm iv L h0 (d + 1) 91 6 [lr 307, li a1, li a2] [vi r2] s1 (qi F)
  refine w_istore_n rfl rfl ?_
  refine w_iload_n rfl rfl ?_
  refine w_if_eq rfl (fun h => ?_) (fun h => ?_)
  · replace H := H.1 h
    refine w_iload_n rfl rfl ?_
    refine w_if_eq rfl (fun h => ?_) (fun h => ?_)
    · replace H := H.1 h
      refine w_aload_n rfl rfl ?_
      refine w_iload_n rfl rfl ?_
      refine w_iconst (n := 0) rfl rfl ?_
      refine m_call (as := [vi a2, vi 0]) (r := []) rfl rfl rfl rfl rfl rfl (wc_mono H (Nat.le_refl _) ?_)
      rintro _ s3 ⟨r4, rfl, H⟩
      show wm iv L h0 (d + 1) 91 67 [lr 307, li a1, li a2, li r2] [vi r4] s3 (qi F)
      refine w_istore rfl rfl ?_
      refine w_iconst (n := 0) rfl rfl ?_
      exact w_iret rfl rfl ⟨_, rfl, H⟩
    · replace H := H.2 h
      refine w_aload_n rfl rfl ?_
      refine m_geta (t := 0) (k := 3004) rfl rfl ?_
      refine w_iload_n rfl rfl ?_
      obtain ⟨g5, H⟩ := H
      refine m_ald rfl (f := 21) (k := 3004) rfl g5 ?_
      refine w_if_ne rfl (fun h => ?_) (fun h => ?_)
      · replace H := H.1 h
        refine w_aload_n rfl rfl ?_
        refine w_iload_n rfl rfl ?_
        refine w_iconst (n := 0) rfl rfl ?_
        refine m_call (as := [vi a2, vi 0]) (r := []) rfl rfl rfl rfl rfl rfl (wc_mono H (Nat.le_refl _) ?_)
        rintro _ s6 ⟨r7, rfl, H⟩
        show wm iv L h0 (d + 1) 91 67 [lr 307, li a1, li a2, li r2] [vi r7] s6 (qi F)
        refine w_istore rfl rfl ?_
        refine w_iconst (n := 0) rfl rfl ?_
        exact w_iret rfl rfl ⟨_, rfl, H⟩
      · replace H := H.2 h
        refine w_aload_n rfl rfl ?_
        refine m_geta (t := 0) (k := 3004) rfl rfl ?_
        refine w_iload_n rfl rfl ?_
        refine w_iconst (n := 2) rfl rfl ?_
        refine m_ast rfl (f := 21) (k := 3004) rfl g5 ?_
        refine w_aload_n rfl rfl ?_
        refine w_iload_n rfl rfl ?_
        refine w_iconst (n := 0) rfl rfl ?_
        refine m_call (as := [vi a2, vi 0]) (r := []) rfl rfl rfl rfl rfl rfl (wc_mono H (Nat.le_refl _) ?_)
        rintro _ s8 ⟨r9, rfl, H⟩
        show wm iv L h0 (d + 1) 91 67 [lr 307, li a1, li a2, li r2] [vi r9] s8 (qi F)
        refine w_istore rfl rfl ?_
        refine w_iconst (n := 0) rfl rfl ?_
        exact w_iret rfl rfl ⟨_, rfl, H⟩
  · replace H := H.2 h
    refine w_aload_n rfl rfl ?_
    refine m_geta (t := 0) (k := 6000) rfl rfl ?_
    refine w_iload_n rfl rfl ?_
    obtain ⟨g10, H⟩ := H
    refine m_ald rfl (f := 4) (k := 6000) rfl g10 ?_
    refine w_iconst (n := 3) rfl rfl ?_
    refine w_icmp_ne rfl (fun h => ?_) (fun h => ?_)
    · replace H := H.1 h
      refine w_iload_n rfl rfl ?_
      refine w_if_eq rfl (fun h => ?_) (fun h => ?_)
      · replace H := H.1 h
        refine w_aload_n rfl rfl ?_
        refine w_iload_n rfl rfl ?_
        refine w_iconst (n := 0) rfl rfl ?_
        refine m_call (as := [vi a2, vi 0]) (r := []) rfl rfl rfl rfl rfl rfl (wc_mono H (Nat.le_refl _) ?_)
        rintro _ s11 ⟨r12, rfl, H⟩
        show wm iv L h0 (d + 1) 91 67 [lr 307, li a1, li a2, li r2] [vi r12] s11 (qi F)
        refine w_istore rfl rfl ?_
        refine w_iconst (n := 0) rfl rfl ?_
        exact w_iret rfl rfl ⟨_, rfl, H⟩
      · replace H := H.2 h
        refine w_aload_n rfl rfl ?_
        refine m_geta (t := 0) (k := 3004) rfl rfl ?_
        refine w_iload_n rfl rfl ?_
        obtain ⟨g13, H⟩ := H
        refine m_ald rfl (f := 21) (k := 3004) rfl g13 ?_
        refine w_if_ne rfl (fun h => ?_) (fun h => ?_)
        · replace H := H.1 h
          refine w_aload_n rfl rfl ?_
          refine w_iload_n rfl rfl ?_
          refine w_iconst (n := 0) rfl rfl ?_
          refine m_call (as := [vi a2, vi 0]) (r := []) rfl rfl rfl rfl rfl rfl (wc_mono H (Nat.le_refl _) ?_)
          rintro _ s14 ⟨r15, rfl, H⟩
          show wm iv L h0 (d + 1) 91 67 [lr 307, li a1, li a2, li r2] [vi r15] s14 (qi F)
          refine w_istore rfl rfl ?_
          refine w_iconst (n := 0) rfl rfl ?_
          exact w_iret rfl rfl ⟨_, rfl, H⟩
        · replace H := H.2 h
          refine w_aload_n rfl rfl ?_
          refine m_geta (t := 0) (k := 3004) rfl rfl ?_
          refine w_iload_n rfl rfl ?_
          refine w_iconst (n := 2) rfl rfl ?_
          refine m_ast rfl (f := 21) (k := 3004) rfl g13 ?_
          refine w_aload_n rfl rfl ?_
          refine w_iload_n rfl rfl ?_
          refine w_iconst (n := 0) rfl rfl ?_
          refine m_call (as := [vi a2, vi 0]) (r := []) rfl rfl rfl rfl rfl rfl (wc_mono H (Nat.le_refl _) ?_)
          rintro _ s16 ⟨r17, rfl, H⟩
          show wm iv L h0 (d + 1) 91 67 [lr 307, li a1, li a2, li r2] [vi r17] s16 (qi F)
          refine w_istore rfl rfl ?_
          refine w_iconst (n := 0) rfl rfl ?_
          exact w_iret rfl rfl ⟨_, rfl, H⟩
    · replace H := H.2 h
      refine w_aload_n rfl rfl ?_
      refine w_iload_n rfl rfl ?_
      refine w_aload_n rfl rfl ?_
      refine m_geta (t := 0) (k := 6000) rfl rfl ?_
      refine w_iload_n rfl rfl ?_
      refine m_ald rfl (f := 5) (k := 6000) rfl g10 ?_
      refine m_call (as := [vi a2, vi (s1.2 5 r2)]) (r := []) rfl rfl rfl rfl rfl rfl (wc_mono H (Nat.le_refl _) ?_)
      rintro _ s18 ⟨r19, rfl, H⟩
      show wm iv L h0 (d + 1) 91 32 [lr 307, li a1, li a2, li r2] [vi r19] s18 (qi F)
      refine w_istore rfl rfl ?_
      refine w_aload_n rfl rfl ?_
      refine m_geta (t := 0) (k := 6000) rfl rfl ?_
      refine w_iload_n rfl rfl ?_
      refine m_ald rfl (f := 6) (k := 6000) rfl g10 ?_
      exact w_iret rfl rfl ⟨_, rfl, H⟩

/-- HoleDeskModel.makePick(IIIII)I -/
theorem B92 {iv : List (Int × Int)} {L : Nat} {h0 : MH} {d : Nat} {s : SM} {a1 : Int} {a2 : Int} {a3 : Int} {a4 : Int} {a5 : Int} {F : Int → SM → Prop} (H : cm iv L h0 d 88 [vr 307, vi a3, vi 2] s (qi fun r2 s1 => cm iv L h0 d 88 [vr 307, vi a4, vi a2] s1 (qi fun r4 s3 => cm iv L h0 d 88 [vr 307, vi a5, vi a2] s3 (qi fun r6 s5 => ((a2 = (-1) → cm iv L h0 d 70 [vr 307, vi r4, vi r6] s5 (qi fun r8 s7 => ((r8 = 0 → (0 ≤ a1 ∧ a1 < 3004) ∧ F 0 (ua s7 21 a1 5)) ∧ (r8 ≠ 0 → cm iv L h0 d 71 [vr 307, vi r4, vi r6] s7 (qi fun r11 s10 => F r11 s10))))) ∧ (a2 ≠ (-1) → F a2 s5)))))) : cm iv L h0 (d + 1) 92 [vr 307, vi a1, vi a2, vi a3, vi a4, vi a5] s (qi F) := by
  show wm iv L h0 (d + 1) 92 0 [lr 307, li a1, li a2, li a3, li a4, li a5] [] s (qi F)
  refine w_aload_n rfl rfl ?_
  refine w_iload_n rfl rfl ?_
  refine w_iconst (n := 2) rfl rfl ?_
  refine m_call (as := [vi a3, vi 2]) (r := []) rfl rfl rfl rfl rfl rfl (wc_mono H (Nat.le_refl _) ?_)
  rintro _ s1 ⟨r2, rfl, H⟩
  show wm iv L h0 (d + 1) 92 6 [lr 307, li a1, li a2, li a3, li a4, li a5] [vi r2] s1 (qi F)
  refine w_istore rfl rfl ?_
  refine w_aload_n rfl rfl ?_
  refine w_iload rfl rfl ?_
  refine w_iload_n rfl rfl ?_
  refine m_call (as := [vi a4, vi a2]) (r := []) rfl rfl rfl rfl rfl rfl (wc_mono H (Nat.le_refl _) ?_)
  rintro _ s3 ⟨r4, rfl, H⟩
  show wm iv L h0 (d + 1) 92 15 [lr 307, li a1, li a2, li a3, li a4, li a5, li r2] [vi r4] s3 (qi F)
  refine w_istore rfl rfl ?_
  refine w_aload_n rfl rfl ?_
  refine w_iload rfl rfl ?_
  refine w_iload_n rfl rfl ?_
  refine m_call (as := [vi a5, vi a2]) (r := []) rfl rfl rfl rfl rfl rfl (wc_mono H (Nat.le_refl _) ?_)
  rintro _ s5 ⟨r6, rfl, H⟩
  show wm iv L h0 (d + 1) 92 24 [lr 307, li a1, li a2, li a3, li a4, li a5, li r2, li r4] [vi r6] s5 (qi F)
  refine w_istore rfl rfl ?_
  refine w_iload_n rfl rfl ?_
  refine w_iconst (n := (-1)) rfl rfl ?_
  refine w_icmp_eq rfl (fun h => ?_) (fun h => ?_)
  · replace H := H.1 h
    refine w_aload_n rfl rfl ?_
    refine w_iload rfl rfl ?_
    refine w_iload rfl rfl ?_
    refine m_call (as := [vi r4, vi r6]) (r := []) rfl rfl rfl rfl rfl rfl (wc_mono H (Nat.le_refl _) ?_)
    rintro _ s7 ⟨r8, rfl, H⟩
    show wm iv L h0 (d + 1) 92 41 [lr 307, li a1, li a2, li a3, li a4, li a5, li r2, li r4, li r6] [vi r8] s7 (qi F)
    refine w_if_eq rfl (fun h => ?_) (fun h => ?_)
    · replace H := H.1 h
      refine w_aload_n rfl rfl ?_
      refine m_geta (t := 0) (k := 3004) rfl rfl ?_
      refine w_iload_n rfl rfl ?_
      refine w_iconst (n := 5) rfl rfl ?_
      obtain ⟨g9, H⟩ := H
      refine m_ast rfl (f := 21) (k := 3004) rfl g9 ?_
      refine w_iconst (n := 0) rfl rfl ?_
      exact w_iret rfl rfl ⟨_, rfl, H⟩
    · replace H := H.2 h
      refine w_aload_n rfl rfl ?_
      refine w_iload rfl rfl ?_
      refine w_iload rfl rfl ?_
      refine m_call (as := [vi r4, vi r6]) (r := []) rfl rfl rfl rfl rfl rfl (wc_mono H (Nat.le_refl _) ?_)
      rintro _ s10 ⟨r11, rfl, H⟩
      show wm iv L h0 (d + 1) 92 52 [lr 307, li a1, li a2, li a3, li a4, li a5, li r2, li r4, li r6] [vi r11] s10 (qi F)
      exact w_iret rfl rfl ⟨_, rfl, H⟩
  · replace H := H.2 h
    refine w_iload_n rfl rfl ?_
    exact w_iret rfl rfl ⟨_, rfl, H⟩
end
section
/-! What the methods of the reference come to. Printed by wip/gen2/gens.py. -/
/-- HoleDeskModel.makePair(III)I -/
theorem B93 {iv : List (Int × Int)} {L : Nat} {h0 : MH} {d : Nat} {s : SM} {a1 : Int} {a2 : Int} {a3 : Int} {F : Int → SM → Prop} (H : ((a1 = (-1) → ((a1 ≠ 0 → ((a1 ≠ 0 → cm iv L h0 d 88 [vr 307, vi a2, vi (-1)] s (qi fun r2 s1 => cm iv L h0 d 88 [vr 307, vi a3, vi (-1)] s1 (qi fun r4 s3 => cm iv L h0 d 65 [vr 307, vi 4, vi r2, vi r4] s3 (qi fun r6 s5 => F r6 s5)))) ∧ (a1 = 0 → cm iv L h0 d 88 [vr 307, vi a2, vi (-1)] s (qi fun r8 s7 => cm iv L h0 d 88 [vr 307, vi a3, vi 0] s7 (qi fun r10 s9 => cm iv L h0 d 65 [vr 307, vi 4, vi r8, vi r10] s9 (qi fun r12 s11 => F r12 s11)))))) ∧ (a1 = 0 → ((a1 ≠ 0 → cm iv L h0 d 88 [vr 307, vi a2, vi 0] s (qi fun r14 s13 => cm iv L h0 d 88 [vr 307, vi a3, vi (-1)] s13 (qi fun r16 s15 => cm iv L h0 d 65 [vr 307, vi 4, vi r14, vi r16] s15 (qi fun r18 s17 => F r18 s17)))) ∧ (a1 = 0 → cm iv L h0 d 88 [vr 307, vi a2, vi 0] s (qi fun r20 s19 => cm iv L h0 d 88 [vr 307, vi a3, vi 0] s19 (qi fun r22 s21 => cm iv L h0 d 65 [vr 307, vi 4, vi r20, vi r22] s21 (qi fun r24 s23 => F r24 s23)))))))) ∧ (a1 ≠ (-1) → (0 ≤ a1 ∧ a1 < 6000) ∧ ((s.2 4 a1 ≠ 4 → ((a1 ≠ 0 → ((a1 ≠ 0 → cm iv L h0 d 88 [vr 307, vi a2, vi (-1)] s (qi fun r27 s26 => cm iv L h0 d 88 [vr 307, vi a3, vi (-1)] s26 (qi fun r29 s28 => cm iv L h0 d 65 [vr 307, vi 4, vi r27, vi r29] s28 (qi fun r31 s30 => F r31 s30)))) ∧ (a1 = 0 → cm iv L h0 d 88 [vr 307, vi a2, vi (-1)] s (qi fun r33 s32 => cm iv L h0 d 88 [vr 307, vi a3, vi 0] s32 (qi fun r35 s34 => cm iv L h0 d 65 [vr 307, vi 4, vi r33, vi r35] s34 (qi fun r37 s36 => F r37 s36)))))) ∧ (a1 = 0 → ((a1 ≠ 0 → cm iv L h0 d 88 [vr 307, vi a2, vi 0] s (qi fun r39 s38 => cm iv L h0 d 88 [vr 307, vi a3, vi (-1)] s38 (qi fun r41 s40 => cm iv L h0 d 65 [vr 307, vi 4, vi r39, vi r41] s40 (qi fun r43 s42 => F r43 s42)))) ∧ (a1 = 0 → cm iv L h0 d 88 [vr 307, vi a2, vi 0] s (qi fun r45 s44 => cm iv L h0 d 88 [vr 307, vi a3, vi 0] s44 (qi fun r47 s46 => cm iv L h0 d 65 [vr 307, vi 4, vi r45, vi r47] s46 (qi fun r49 s48 => F r49 s48)))))))) ∧ (s.2 4 a1 = 4 → cm iv L h0 d 88 [vr 307, vi a2, vi (s.2 5 a1)] s (qi fun r51 s50 => cm iv L h0 d 88 [vr 307, vi a3, vi (s.2 6 a1)] s50 (qi fun r53 s52 => cm iv L h0 d 65 [vr 307, vi 4, vi r51, vi r53] s52 (qi fun r55 s54 => F r55 s54)))))))) : cm iv L h0 (d + 1) 93 [vr 307, vi a1, vi a2, vi a3] s (qi F) := by
  show wm iv L h0 (d + 1) 93 0 [lr 307, li a1, li a2, li a3] [] s (qi F)
  refine w_iload_n rfl rfl ?_
  refine w_iconst (n := (-1)) rfl rfl ?_
  refine w_icmp_eq rfl (fun h => ?_) (fun h => ?_)
  · replace H := H.1 h
    refine w_iconst (n := 0) rfl rfl ?_
    refine w_istore rfl rfl ?_
    refine w_iload rfl rfl ?_
    refine w_if_eq rfl (fun _ => ?_) (fun h => absurd h (by decide))
    refine w_iload_n rfl rfl ?_
    refine w_if_ne rfl (fun h => ?_) (fun h => ?_)
    · replace H := H.1 h
      refine w_iconst (n := (-1)) rfl rfl ?_
      refine w_istore rfl rfl ?_
      refine w_iload rfl rfl ?_
      refine w_if_eq rfl (fun _ => ?_) (fun h => absurd h (by decide))
      refine w_iload_n rfl rfl ?_
      refine w_if_ne rfl (fun h => ?_) (fun h => ?_)
      · replace H := H.1 h
        refine w_iconst (n := (-1)) rfl rfl ?_
        refine w_istore rfl rfl ?_
        refine w_aload_n rfl rfl ?_
        refine w_iload_n rfl rfl ?_
        refine w_iload rfl rfl ?_
        refine m_call (as := [vi a2, vi (-1)]) (r := []) rfl rfl rfl rfl rfl rfl (wc_mono H (Nat.le_refl _) ?_)
        rintro _ s1 ⟨r2, rfl, H⟩
        show wm iv L h0 (d + 1) 93 79 [lr 307, li a1, li a2, li a3, li 0, li (-1), li (-1)] [vi r2] s1 (qi F)
        refine w_istore rfl rfl ?_
        refine w_aload_n rfl rfl ?_
        refine w_iconst (n := 4) rfl rfl ?_
        refine w_iload rfl rfl ?_
        refine w_aload_n rfl rfl ?_
        refine w_iload_n rfl rfl ?_
        refine w_iload rfl rfl ?_
        refine m_call (as := [vi a3, vi (-1)]) (r := [vi r2, vi 4, vr 307]) rfl rfl rfl rfl rfl rfl (wc_mono H (Nat.le_refl _) ?_)
        rintro _ s3 ⟨r4, rfl, H⟩
        show wm iv L h0 (d + 1) 93 92 [lr 307, li a1, li a2, li a3, li 0, li (-1), li (-1), li r2] [vi r4, vi r2, vi 4, vr 307] s3 (qi F)
        refine m_call (as := [vi 4, vi r2, vi r4]) (r := []) rfl rfl rfl rfl rfl rfl (wc_mono H (Nat.le_refl _) ?_)
        rintro _ s5 ⟨r6, rfl, H⟩
        show wm iv L h0 (d + 1) 93 95 [lr 307, li a1, li a2, li a3, li 0, li (-1), li (-1), li r2] [vi r6] s5 (qi F)
        exact w_iret rfl rfl ⟨_, rfl, H⟩
      · replace H := H.2 h
        refine w_iconst (n := 0) rfl rfl ?_
        refine w_goto rfl ?_
        refine w_istore rfl rfl ?_
        refine w_aload_n rfl rfl ?_
        refine w_iload_n rfl rfl ?_
        refine w_iload rfl rfl ?_
        refine m_call (as := [vi a2, vi (-1)]) (r := []) rfl rfl rfl rfl rfl rfl (wc_mono H (Nat.le_refl _) ?_)
        rintro _ s7 ⟨r8, rfl, H⟩
        show wm iv L h0 (d + 1) 93 79 [lr 307, li a1, li a2, li a3, li 0, li (-1), li 0] [vi r8] s7 (qi F)
        refine w_istore rfl rfl ?_
        refine w_aload_n rfl rfl ?_
        refine w_iconst (n := 4) rfl rfl ?_
        refine w_iload rfl rfl ?_
        refine w_aload_n rfl rfl ?_
        refine w_iload_n rfl rfl ?_
        refine w_iload rfl rfl ?_
        refine m_call (as := [vi a3, vi 0]) (r := [vi r8, vi 4, vr 307]) rfl rfl rfl rfl rfl rfl (wc_mono H (Nat.le_refl _) ?_)
        rintro _ s9 ⟨r10, rfl, H⟩
        show wm iv L h0 (d + 1) 93 92 [lr 307, li a1, li a2, li a3, li 0, li (-1), li 0, li r8] [vi r10, vi r8, vi 4, vr 307] s9 (qi F)
        refine m_call (as := [vi 4, vi r8, vi r10]) (r := []) rfl rfl rfl rfl rfl rfl (wc_mono H (Nat.le_refl _) ?_)
        rintro _ s11 ⟨r12, rfl, H⟩
        show wm iv L h0 (d + 1) 93 95 [lr 307, li a1, li a2, li a3, li 0, li (-1), li 0, li r8] [vi r12] s11 (qi F)
        exact w_iret rfl rfl ⟨_, rfl, H⟩
    · replace H := H.2 h
      refine w_iconst (n := 0) rfl rfl ?_
      refine w_goto rfl ?_
      refine w_istore rfl rfl ?_
      refine w_iload rfl rfl ?_
      refine w_if_eq rfl (fun _ => ?_) (fun h => absurd h (by decide))
      refine w_iload_n rfl rfl ?_
      refine w_if_ne rfl (fun h => ?_) (fun h => ?_)
      · replace H := H.1 h
        refine w_iconst (n := (-1)) rfl rfl ?_
        refine w_istore rfl rfl ?_
        refine w_aload_n rfl rfl ?_
        refine w_iload_n rfl rfl ?_
        refine w_iload rfl rfl ?_
        refine m_call (as := [vi a2, vi 0]) (r := []) rfl rfl rfl rfl rfl rfl (wc_mono H (Nat.le_refl _) ?_)
        rintro _ s13 ⟨r14, rfl, H⟩
        show wm iv L h0 (d + 1) 93 79 [lr 307, li a1, li a2, li a3, li 0, li 0, li (-1)] [vi r14] s13 (qi F)
        refine w_istore rfl rfl ?_
        refine w_aload_n rfl rfl ?_
        refine w_iconst (n := 4) rfl rfl ?_
        refine w_iload rfl rfl ?_
        refine w_aload_n rfl rfl ?_
        refine w_iload_n rfl rfl ?_
        refine w_iload rfl rfl ?_
        refine m_call (as := [vi a3, vi (-1)]) (r := [vi r14, vi 4, vr 307]) rfl rfl rfl rfl rfl rfl (wc_mono H (Nat.le_refl _) ?_)
        rintro _ s15 ⟨r16, rfl, H⟩
        show wm iv L h0 (d + 1) 93 92 [lr 307, li a1, li a2, li a3, li 0, li 0, li (-1), li r14] [vi r16, vi r14, vi 4, vr 307] s15 (qi F)
        refine m_call (as := [vi 4, vi r14, vi r16]) (r := []) rfl rfl rfl rfl rfl rfl (wc_mono H (Nat.le_refl _) ?_)
        rintro _ s17 ⟨r18, rfl, H⟩
        show wm iv L h0 (d + 1) 93 95 [lr 307, li a1, li a2, li a3, li 0, li 0, li (-1), li r14] [vi r18] s17 (qi F)
        exact w_iret rfl rfl ⟨_, rfl, H⟩
      · replace H := H.2 h
        refine w_iconst (n := 0) rfl rfl ?_
        refine w_goto rfl ?_
        refine w_istore rfl rfl ?_
        refine w_aload_n rfl rfl ?_
        refine w_iload_n rfl rfl ?_
        refine w_iload rfl rfl ?_
        refine m_call (as := [vi a2, vi 0]) (r := []) rfl rfl rfl rfl rfl rfl (wc_mono H (Nat.le_refl _) ?_)
        rintro _ s19 ⟨r20, rfl, H⟩
        show wm iv L h0 (d + 1) 93 79 [lr 307, li a1, li a2, li a3, li 0, li 0, li 0] [vi r20] s19 (qi F)
        refine w_istore rfl rfl ?_
        refine w_aload_n rfl rfl ?_
        refine w_iconst (n := 4) rfl rfl ?_
        refine w_iload rfl rfl ?_
        refine w_aload_n rfl rfl ?_
        refine w_iload_n rfl rfl ?_
        refine w_iload rfl rfl ?_
        refine m_call (as := [vi a3, vi 0]) (r := [vi r20, vi 4, vr 307]) rfl rfl rfl rfl rfl rfl (wc_mono H (Nat.le_refl _) ?_)
        rintro _ s21 ⟨r22, rfl, H⟩
        show wm iv L h0 (d + 1) 93 92 [lr 307, li a1, li a2, li a3, li 0, li 0, li 0, li r20] [vi r22, vi r20, vi 4, vr 307] s21 (qi F)
        refine m_call (as := [vi 4, vi r20, vi r22]) (r := []) rfl rfl rfl rfl rfl rfl (wc_mono H (Nat.le_refl _) ?_)
        rintro _ s23 ⟨r24, rfl, H⟩
        show wm iv L h0 (d + 1) 93 95 [lr 307, li a1, li a2, li a3, li 0, li 0, li 0, li r20] [vi r24] s23 (qi F)
        exact w_iret rfl rfl ⟨_, rfl, H⟩
  · replace H := H.2 h
    refine w_aload_n rfl rfl ?_
    refine m_geta (t := 0) (k := 6000) rfl rfl ?_
    refine w_iload_n rfl rfl ?_
    obtain ⟨g25, H⟩ := H
    refine m_ald rfl (f := 4) (k := 6000) rfl g25 ?_
    refine w_iconst (n := 4) rfl rfl ?_
    refine w_icmp_ne rfl (fun h => ?_) (fun h => ?_)
    · replace H := H.1 h
      refine w_iconst (n := 0) rfl rfl ?_
      refine w_istore rfl rfl ?_
      refine w_iload rfl rfl ?_
      refine w_if_eq rfl (fun _ => ?_) (fun h => absurd h (by decide))
      refine w_iload_n rfl rfl ?_
      refine w_if_ne rfl (fun h => ?_) (fun h => ?_)
      · replace H := H.1 h
        refine w_iconst (n := (-1)) rfl rfl ?_
        refine w_istore rfl rfl ?_
        refine w_iload rfl rfl ?_
        refine w_if_eq rfl (fun _ => ?_) (fun h => absurd h (by decide))
        refine w_iload_n rfl rfl ?_
        refine w_if_ne rfl (fun h => ?_) (fun h => ?_)
        · replace H := H.1 h
          refine w_iconst (n := (-1)) rfl rfl ?_
          refine w_istore rfl rfl ?_
          refine w_aload_n rfl rfl ?_
          refine w_iload_n rfl rfl ?_
          refine w_iload rfl rfl ?_
          refine m_call (as := [vi a2, vi (-1)]) (r := []) rfl rfl rfl rfl rfl rfl (wc_mono H (Nat.le_refl _) ?_)
          rintro _ s26 ⟨r27, rfl, H⟩
          show wm iv L h0 (d + 1) 93 79 [lr 307, li a1, li a2, li a3, li 0, li (-1), li (-1)] [vi r27] s26 (qi F)
          refine w_istore rfl rfl ?_
          refine w_aload_n rfl rfl ?_
          refine w_iconst (n := 4) rfl rfl ?_
          refine w_iload rfl rfl ?_
          refine w_aload_n rfl rfl ?_
          refine w_iload_n rfl rfl ?_
          refine w_iload rfl rfl ?_
          refine m_call (as := [vi a3, vi (-1)]) (r := [vi r27, vi 4, vr 307]) rfl rfl rfl rfl rfl rfl (wc_mono H (Nat.le_refl _) ?_)
          rintro _ s28 ⟨r29, rfl, H⟩
          show wm iv L h0 (d + 1) 93 92 [lr 307, li a1, li a2, li a3, li 0, li (-1), li (-1), li r27] [vi r29, vi r27, vi 4, vr 307] s28 (qi F)
          refine m_call (as := [vi 4, vi r27, vi r29]) (r := []) rfl rfl rfl rfl rfl rfl (wc_mono H (Nat.le_refl _) ?_)
          rintro _ s30 ⟨r31, rfl, H⟩
          show wm iv L h0 (d + 1) 93 95 [lr 307, li a1, li a2, li a3, li 0, li (-1), li (-1), li r27] [vi r31] s30 (qi F)
          exact w_iret rfl rfl ⟨_, rfl, H⟩
        · replace H := H.2 h
          refine w_iconst (n := 0) rfl rfl ?_
          refine w_goto rfl ?_
          refine w_istore rfl rfl ?_
          refine w_aload_n rfl rfl ?_
          refine w_iload_n rfl rfl ?_
          refine w_iload rfl rfl ?_
          refine m_call (as := [vi a2, vi (-1)]) (r := []) rfl rfl rfl rfl rfl rfl (wc_mono H (Nat.le_refl _) ?_)
          rintro _ s32 ⟨r33, rfl, H⟩
          show wm iv L h0 (d + 1) 93 79 [lr 307, li a1, li a2, li a3, li 0, li (-1), li 0] [vi r33] s32 (qi F)
          refine w_istore rfl rfl ?_
          refine w_aload_n rfl rfl ?_
          refine w_iconst (n := 4) rfl rfl ?_
          refine w_iload rfl rfl ?_
          refine w_aload_n rfl rfl ?_
          refine w_iload_n rfl rfl ?_
          refine w_iload rfl rfl ?_
          refine m_call (as := [vi a3, vi 0]) (r := [vi r33, vi 4, vr 307]) rfl rfl rfl rfl rfl rfl (wc_mono H (Nat.le_refl _) ?_)
          rintro _ s34 ⟨r35, rfl, H⟩
          show wm iv L h0 (d + 1) 93 92 [lr 307, li a1, li a2, li a3, li 0, li (-1), li 0, li r33] [vi r35, vi r33, vi 4, vr 307] s34 (qi F)
          refine m_call (as := [vi 4, vi r33, vi r35]) (r := []) rfl rfl rfl rfl rfl rfl (wc_mono H (Nat.le_refl _) ?_)
          rintro _ s36 ⟨r37, rfl, H⟩
          show wm iv L h0 (d + 1) 93 95 [lr 307, li a1, li a2, li a3, li 0, li (-1), li 0, li r33] [vi r37] s36 (qi F)
          exact w_iret rfl rfl ⟨_, rfl, H⟩
      · replace H := H.2 h
        refine w_iconst (n := 0) rfl rfl ?_
        refine w_goto rfl ?_
        refine w_istore rfl rfl ?_
        refine w_iload rfl rfl ?_
        refine w_if_eq rfl (fun _ => ?_) (fun h => absurd h (by decide))
        refine w_iload_n rfl rfl ?_
        refine w_if_ne rfl (fun h => ?_) (fun h => ?_)
        · replace H := H.1 h
          refine w_iconst (n := (-1)) rfl rfl ?_
          refine w_istore rfl rfl ?_
          refine w_aload_n rfl rfl ?_
          refine w_iload_n rfl rfl ?_
          refine w_iload rfl rfl ?_
          refine m_call (as := [vi a2, vi 0]) (r := []) rfl rfl rfl rfl rfl rfl (wc_mono H (Nat.le_refl _) ?_)
          rintro _ s38 ⟨r39, rfl, H⟩
          show wm iv L h0 (d + 1) 93 79 [lr 307, li a1, li a2, li a3, li 0, li 0, li (-1)] [vi r39] s38 (qi F)
          refine w_istore rfl rfl ?_
          refine w_aload_n rfl rfl ?_
          refine w_iconst (n := 4) rfl rfl ?_
          refine w_iload rfl rfl ?_
          refine w_aload_n rfl rfl ?_
          refine w_iload_n rfl rfl ?_
          refine w_iload rfl rfl ?_
          refine m_call (as := [vi a3, vi (-1)]) (r := [vi r39, vi 4, vr 307]) rfl rfl rfl rfl rfl rfl (wc_mono H (Nat.le_refl _) ?_)
          rintro _ s40 ⟨r41, rfl, H⟩
          show wm iv L h0 (d + 1) 93 92 [lr 307, li a1, li a2, li a3, li 0, li 0, li (-1), li r39] [vi r41, vi r39, vi 4, vr 307] s40 (qi F)
          refine m_call (as := [vi 4, vi r39, vi r41]) (r := []) rfl rfl rfl rfl rfl rfl (wc_mono H (Nat.le_refl _) ?_)
          rintro _ s42 ⟨r43, rfl, H⟩
          show wm iv L h0 (d + 1) 93 95 [lr 307, li a1, li a2, li a3, li 0, li 0, li (-1), li r39] [vi r43] s42 (qi F)
          exact w_iret rfl rfl ⟨_, rfl, H⟩
        · replace H := H.2 h
          refine w_iconst (n := 0) rfl rfl ?_
          refine w_goto rfl ?_
          refine w_istore rfl rfl ?_
          refine w_aload_n rfl rfl ?_
          refine w_iload_n rfl rfl ?_
          refine w_iload rfl rfl ?_
          refine m_call (as := [vi a2, vi 0]) (r := []) rfl rfl rfl rfl rfl rfl (wc_mono H (Nat.le_refl _) ?_)
          rintro _ s44 ⟨r45, rfl, H⟩
          show wm iv L h0 (d + 1) 93 79 [lr 307, li a1, li a2, li a3, li 0, li 0, li 0] [vi r45] s44 (qi F)
          refine w_istore rfl rfl ?_
          refine w_aload_n rfl rfl ?_
          refine w_iconst (n := 4) rfl rfl ?_
          refine w_iload rfl rfl ?_
          refine w_aload_n rfl rfl ?_
          refine w_iload_n rfl rfl ?_
          refine w_iload rfl rfl ?_
          refine m_call (as := [vi a3, vi 0]) (r := [vi r45, vi 4, vr 307]) rfl rfl rfl rfl rfl rfl (wc_mono H (Nat.le_refl _) ?_)
          rintro _ s46 ⟨r47, rfl, H⟩
          show wm iv L h0 (d + 1) 93 92 [lr 307, li a1, li a2, li a3, li 0, li 0, li 0, li r45] [vi r47, vi r45, vi 4, vr 307] s46 (qi F)
          refine m_call (as := [vi 4, vi r45, vi r47]) (r := []) rfl rfl rfl rfl rfl rfl (wc_mono H (Nat.le_refl _) ?_)
          rintro _ s48 ⟨r49, rfl, H⟩
          show wm iv L h0 (d + 1) 93 95 [lr 307, li a1, li a2, li a3, li 0, li 0, li 0, li r45] [vi r49] s48 (qi F)
          exact w_iret rfl rfl ⟨_, rfl, H⟩
    · replace H := H.2 h
      refine w_iconst (n := 1) rfl rfl ?_
      refine w_goto rfl ?_
      refine w_istore rfl rfl ?_
      refine w_iload rfl rfl ?_
      refine w_if_eq rfl (fun h => absurd h (by decide)) (fun _ => ?_)
      refine w_aload_n rfl rfl ?_
      refine m_geta (t := 0) (k := 6000) rfl rfl ?_
      refine w_iload_n rfl rfl ?_
      refine m_ald rfl (f := 5) (k := 6000) rfl g25 ?_
      refine w_goto rfl ?_
      refine w_istore rfl rfl ?_
      refine w_iload rfl rfl ?_
      refine w_if_eq rfl (fun h => absurd h (by decide)) (fun _ => ?_)
      refine w_aload_n rfl rfl ?_
      refine m_geta (t := 0) (k := 6000) rfl rfl ?_
      refine w_iload_n rfl rfl ?_
      refine m_ald rfl (f := 6) (k := 6000) rfl g25 ?_
      refine w_goto rfl ?_
      refine w_istore rfl rfl ?_
      refine w_aload_n rfl rfl ?_
      refine w_iload_n rfl rfl ?_
      refine w_iload rfl rfl ?_
      refine m_call (as := [vi a2, vi (s.2 5 a1)]) (r := []) rfl rfl rfl rfl rfl rfl (wc_mono H (Nat.le_refl _) ?_)
      rintro _ s50 ⟨r51, rfl, H⟩
      show wm iv L h0 (d + 1) 93 79 [lr 307, li a1, li a2, li a3, li 1, li (s.2 5 a1), li (s.2 6 a1)] [vi r51] s50 (qi F)
      refine w_istore rfl rfl ?_
      refine w_aload_n rfl rfl ?_
      refine w_iconst (n := 4) rfl rfl ?_
      refine w_iload rfl rfl ?_
      refine w_aload_n rfl rfl ?_
      refine w_iload_n rfl rfl ?_
      refine w_iload rfl rfl ?_
      refine m_call (as := [vi a3, vi (s.2 6 a1)]) (r := [vi r51, vi 4, vr 307]) rfl rfl rfl rfl rfl rfl (wc_mono H (Nat.le_refl _) ?_)
      rintro _ s52 ⟨r53, rfl, H⟩
      show wm iv L h0 (d + 1) 93 92 [lr 307, li a1, li a2, li a3, li 1, li (s.2 5 a1), li (s.2 6 a1), li r51] [vi r53, vi r51, vi 4, vr 307] s52 (qi F)
      refine m_call (as := [vi 4, vi r51, vi r53]) (r := []) rfl rfl rfl rfl rfl rfl (wc_mono H (Nat.le_refl _) ?_)
      rintro _ s54 ⟨r55, rfl, H⟩
      show wm iv L h0 (d + 1) 93 95 [lr 307, li a1, li a2, li a3, li 1, li (s.2 5 a1), li (s.2 6 a1), li r51] [vi r55] s54 (qi F)
      exact w_iret rfl rfl ⟨_, rfl, H⟩

/-- HoleDeskModel.told(II)I -/
theorem B94 {iv : List (Int × Int)} {L : Nat} {h0 : MH} {d : Nat} {s : SM} {a1 : Int} {a2 : Int} {F : Int → SM → Prop} (H : cm iv L h0 d 80 [vr 307, vi a1] s (qi fun r2 s1 => ((r2 = 0 → F (-1) s1) ∧ (r2 ≠ 0 → ((0 ≤ a2 ∧ a2 ≤ 6 → ((a2 = 0 → (0 ≤ a1 ∧ a1 < 3004) ∧ F (s1.2 9 a1) s1) ∧ (a2 = 1 → (0 ≤ a1 ∧ a1 < 3004) ∧ F (s1.2 10 a1) s1) ∧ (a2 = 2 → (0 ≤ a1 ∧ a1 < 3004) ∧ F (s1.2 11 a1) s1) ∧ (a2 = 3 → (0 ≤ a1 ∧ a1 < 3004) ∧ F (s1.2 12 a1) s1) ∧ (a2 = 4 → (0 ≤ a1 ∧ a1 < 3004) ∧ F (s1.2 13 a1) s1) ∧ (a2 = 5 → (0 ≤ a1 ∧ a1 < 3004) ∧ (0 ≤ s1.2 9 a1 ∧ s1.2 9 a1 < 16) ∧ F (pO (s1.2 9 a1)) s1) ∧ (a2 < 0 ∨ 5 < a2 → cm iv L h0 d 86 [vr 307] s1 (qv fun s10 => (0 ≤ a1 ∧ a1 < 3004) ∧ F (s10.2 21 a1) s10)))) ∧ (a2 < 0 ∨ 6 < a2 → F (-1) s1)))))) : cm iv L h0 (d + 1) 94 [vr 307, vi a1, vi a2] s (qi F) := by
  show wm iv L h0 (d + 1) 94 0 [lr 307, li a1, li a2] [] s (qi F)
  refine w_aload_n rfl rfl ?_
  refine w_iload_n rfl rfl ?_
  refine m_call (as := [vi a1]) (r := []) rfl rfl rfl rfl rfl rfl (wc_mono H (Nat.le_refl _) ?_)
  rintro _ s1 ⟨r2, rfl, H⟩
  show wm iv L h0 (d + 1) 94 5 [lr 307, li a1, li a2] [vi r2] s1 (qi F)
  refine w_if_eq rfl (fun h => ?_) (fun h => ?_)
  · replace H := H.1 h
    refine w_iconst (n := (-1)) rfl rfl ?_
    exact w_iret rfl rfl ⟨_, rfl, H⟩
  · replace H := H.2 h
    refine w_iload_n rfl rfl ?_
    refine w_iconst (n := 0) rfl rfl ?_
    refine w_bipush (n := 6) rfl rfl rfl ?_
    refine w_static (as := [vi a2, vi 0, vi 6]) (r := []) rfl rfl rfl rfl rfl (m_in (fun h => ?_) (fun h => ?_))
    · show wm iv L h0 (d + 1) 94 15 [lr 307, li a1, li a2] [vi 1] s1 (qi F)
      replace H := H.1 h
      refine w_if_ne rfl (fun _ => ?_) (fun h => absurd h (by decide))
      refine w_iload_n rfl rfl ?_
      have J60 : (a2 = 0) → wm iv L h0 (d + 1) 94 60 [lr 307, li a1, li a2] [] s1 (qi F) := fun h => by
        replace H := H.1 h
        refine w_aload_n rfl rfl ?_
        refine m_geta (t := 0) (k := 3004) rfl rfl ?_
        refine w_iload_n rfl rfl ?_
        obtain ⟨g3, H⟩ := H
        refine m_ald rfl (f := 9) (k := 3004) rfl g3 ?_
        exact w_iret rfl rfl ⟨_, rfl, H⟩
      have J67 : (a2 = 1) → wm iv L h0 (d + 1) 94 67 [lr 307, li a1, li a2] [] s1 (qi F) := fun h => by
        replace H := H.2.1 h
        refine w_aload_n rfl rfl ?_
        refine m_geta (t := 0) (k := 3004) rfl rfl ?_
        refine w_iload_n rfl rfl ?_
        obtain ⟨g4, H⟩ := H
        refine m_ald rfl (f := 10) (k := 3004) rfl g4 ?_
        exact w_iret rfl rfl ⟨_, rfl, H⟩
      have J74 : (a2 = 2) → wm iv L h0 (d + 1) 94 74 [lr 307, li a1, li a2] [] s1 (qi F) := fun h => by
        replace H := H.2.2.1 h
        refine w_aload_n rfl rfl ?_
        refine m_geta (t := 0) (k := 3004) rfl rfl ?_
        refine w_iload_n rfl rfl ?_
        obtain ⟨g5, H⟩ := H
        refine m_ald rfl (f := 11) (k := 3004) rfl g5 ?_
        exact w_iret rfl rfl ⟨_, rfl, H⟩
      have J81 : (a2 = 3) → wm iv L h0 (d + 1) 94 81 [lr 307, li a1, li a2] [] s1 (qi F) := fun h => by
        replace H := H.2.2.2.1 h
        refine w_aload_n rfl rfl ?_
        refine m_geta (t := 0) (k := 3004) rfl rfl ?_
        refine w_iload_n rfl rfl ?_
        obtain ⟨g6, H⟩ := H
        refine m_ald rfl (f := 12) (k := 3004) rfl g6 ?_
        exact w_iret rfl rfl ⟨_, rfl, H⟩
      have J88 : (a2 = 4) → wm iv L h0 (d + 1) 94 88 [lr 307, li a1, li a2] [] s1 (qi F) := fun h => by
        replace H := H.2.2.2.2.1 h
        refine w_aload_n rfl rfl ?_
        refine m_geta (t := 0) (k := 3004) rfl rfl ?_
        refine w_iload_n rfl rfl ?_
        obtain ⟨g7, H⟩ := H
        refine m_ald rfl (f := 13) (k := 3004) rfl g7 ?_
        exact w_iret rfl rfl ⟨_, rfl, H⟩
      have J95 : (a2 = 5) → wm iv L h0 (d + 1) 94 95 [lr 307, li a1, li a2] [] s1 (qi F) := fun h => by
        replace H := H.2.2.2.2.2.1 h
        refine w_aload_n rfl rfl ?_
        refine m_geta (t := 0) (k := 3004) rfl rfl ?_
        refine w_iload_n rfl rfl ?_
        obtain ⟨g8, H⟩ := H
        refine m_ald rfl (f := 9) (k := 3004) rfl g8 ?_
        obtain ⟨g9, H⟩ := H
        refine w_static (as := [vi (s1.2 9 a1)]) (r := []) rfl rfl rfl rfl rfl (m_parts g9 ?_)
        show wm iv L h0 (d + 1) 94 104 [lr 307, li a1, li a2] [vi (pO (s1.2 9 a1))] s1 (qi F)
        exact w_iret rfl rfl ⟨_, rfl, H⟩
      have J105 : (a2 < 0 ∨ 5 < a2) → wm iv L h0 (d + 1) 94 105 [lr 307, li a1, li a2] [] s1 (qi F) := fun h => by
        replace H := H.2.2.2.2.2.2 h
        refine w_aload_n rfl rfl ?_
        refine m_call (as := []) (r := []) rfl rfl rfl rfl rfl rfl (wc_mono H (Nat.le_refl _) ?_)
        rintro _ s10 ⟨rfl, H⟩
        show wm iv L h0 (d + 1) 94 109 [lr 307, li a1, li a2] [] s10 (qi F)
        refine w_aload_n rfl rfl ?_
        refine m_geta (t := 0) (k := 3004) rfl rfl ?_
        refine w_iload_n rfl rfl ?_
        obtain ⟨g11, H⟩ := H
        refine m_ald rfl (f := 21) (k := 3004) rfl g11 ?_
        exact w_iret rfl rfl ⟨_, rfl, H⟩
      refine w_tsw (td := 105) (ts := [60, 67, 74, 81, 88, 95]) rfl rfl rfl rfl rfl rfl (fun h => J105 (by omega)) ?_
      exact swA_c (fun h => J60 (by omega)) (swA_c (fun h => J67 (by omega)) (swA_c (fun h => J74 (by omega)) (swA_c (fun h => J81 (by omega)) (swA_c (fun h => J88 (by omega)) (swA_c (fun h => J95 (by omega)) (swA_n))))))
    · show wm iv L h0 (d + 1) 94 15 [lr 307, li a1, li a2] [vi 0] s1 (qi F)
      replace H := H.2 h
      refine w_if_ne rfl (fun h => absurd h (by decide)) (fun _ => ?_)
      refine w_iconst (n := (-1)) rfl rfl ?_
      exact w_iret rfl rfl ⟨_, rfl, H⟩

/-- HoleDeskModel.part(II)I -/
theorem B95 {iv : List (Int × Int)} {L : Nat} {h0 : MH} {d : Nat} {s : SM} {a1 : Int} {a2 : Int} {F : Int → SM → Prop} (H : cm iv L h0 d 80 [vr 307, vi a1] s (qi fun r2 s1 => ((r2 ≠ 0 → (0 ≤ a1 ∧ a1 < 3004) ∧ (0 ≤ s1.2 9 a1 ∧ s1.2 9 a1 < 16) ∧ (-2147483648 ≤ (pO (s1.2 9 a1)) - 1 ∧ (pO (s1.2 9 a1)) - 1 ≤ 2147483647) ∧ ((0 ≤ a2 ∧ a2 ≤ (pO (s1.2 9 a1)) - 1 → (-2147483648 ≤ 3 * a1 ∧ 3 * a1 ≤ 2147483647) ∧ (-2147483648 ≤ (3 * a1) + a2 ∧ (3 * a1) + a2 ≤ 2147483647) ∧ (0 ≤ (3 * a1) + a2 ∧ (3 * a1) + a2 < 9012) ∧ F (s1.2 14 ((3 * a1) + a2)) s1) ∧ (a2 < 0 ∨ (pO (s1.2 9 a1)) - 1 < a2 → cm iv L h0 d 61 [vr 307, vi 2] s1 (qi fun r10 s9 => F r10 s9)))) ∧ (r2 = 0 → F (-1) s1)))) : cm iv L h0 (d + 1) 95 [vr 307, vi a1, vi a2] s (qi F) := by
  show wm iv L h0 (d + 1) 95 0 [lr 307, li a1, li a2] [] s (qi F)
  refine w_aload_n rfl rfl ?_
  refine w_iload_n rfl rfl ?_
  refine m_call (as := [vi a1]) (r := []) rfl rfl rfl rfl rfl rfl (wc_mono H (Nat.le_refl _) ?_)
  rintro _ s1 ⟨r2, rfl, H⟩
  show wm iv L h0 (d + 1) 95 5 [lr 307, li a1, li a2] [vi r2] s1 (qi F)
  refine w_if_ne rfl (fun h => ?_) (fun h => ?_)
  · replace H := H.1 h
    refine w_iload_n rfl rfl ?_
    refine w_iconst (n := 0) rfl rfl ?_
    refine w_aload_n rfl rfl ?_
    refine m_geta (t := 0) (k := 3004) rfl rfl ?_
    refine w_iload_n rfl rfl ?_
    obtain ⟨g3, H⟩ := H
    refine m_ald rfl (f := 9) (k := 3004) rfl g3 ?_
    obtain ⟨g4, H⟩ := H
    refine w_static (as := [vi (s1.2 9 a1)]) (r := [vi 0, vi a2]) rfl rfl rfl rfl rfl (m_parts g4 ?_)
    show wm iv L h0 (d + 1) 95 21 [lr 307, li a1, li a2] [vi (pO (s1.2 9 a1)), vi 0, vi a2] s1 (qi F)
    refine w_iconst (n := 1) rfl rfl ?_
    obtain ⟨g5, H⟩ := H
    refine w_isub rfl g5 ?_
    refine w_static (as := [vi a2, vi 0, vi ((pO (s1.2 9 a1)) - 1)]) (r := []) rfl rfl rfl rfl rfl (m_in (fun h => ?_) (fun h => ?_))
    · show wm iv L h0 (d + 1) 95 26 [lr 307, li a1, li a2] [vi 1] s1 (qi F)
      replace H := H.1 h
      refine w_if_eq rfl (fun h => absurd h (by decide)) (fun _ => ?_)
      refine w_aload_n rfl rfl ?_
      refine m_geta (t := 0) (k := 9012) rfl rfl ?_
      refine w_iconst (n := 3) rfl rfl ?_
      refine w_iload_n rfl rfl ?_
      obtain ⟨g6, H⟩ := H
      refine w_imul rfl g6 ?_
      refine w_iload_n rfl rfl ?_
      obtain ⟨g7, H⟩ := H
      refine w_iadd rfl g7 ?_
      obtain ⟨g8, H⟩ := H
      refine m_ald rfl (f := 14) (k := 9012) rfl g8 ?_
      refine w_goto rfl ?_
      exact w_iret rfl rfl ⟨_, rfl, H⟩
    · show wm iv L h0 (d + 1) 95 26 [lr 307, li a1, li a2] [vi 0] s1 (qi F)
      replace H := H.2 h
      refine w_if_eq rfl (fun _ => ?_) (fun h => absurd h (by decide))
      refine w_aload_n rfl rfl ?_
      refine w_iconst (n := 2) rfl rfl ?_
      refine m_call (as := [vi 2]) (r := []) rfl rfl rfl rfl rfl rfl (wc_mono H (Nat.le_refl _) ?_)
      rintro _ s9 ⟨r10, rfl, H⟩
      show wm iv L h0 (d + 1) 95 47 [lr 307, li a1, li a2] [vi r10] s9 (qi F)
      exact w_iret rfl rfl ⟨_, rfl, H⟩
  · replace H := H.2 h
    refine w_iconst (n := (-1)) rfl rfl ?_
    exact w_iret rfl rfl ⟨_, rfl, H⟩

/-- HoleDeskModel.spell(I)V -/
theorem B96 {iv : List (Int × Int)} {L : Nat} {h0 : MH} {d : Nat} {s : SM} {a1 : Int} {F : SM → Prop} (H : (0 ≤ a1 ∧ a1 < 6000) ∧ ((s.2 4 a1 ≠ 0 → ((s.2 4 a1 ≠ 1 → ((s.2 4 a1 ≠ 2 → ((s.2 4 a1 ≠ 3 → (0 ≤ s.1 23 ∧ s.1 23 < 64) ∧ (-128 ≤ w8 112 ∧ w8 112 ≤ 127) ∧ (-2147483648 ≤ (s.1 23) + 1 ∧ (s.1 23) + 1 ≤ 2147483647) ∧ ((s.2 4 a1 < 3 → F (us (ua s 22 (s.1 23) (w8 112)) 23 ((s.1 23) + 1))) ∧ (3 ≤ s.2 4 a1 → cm iv L h0 d 96 [vr 307, vi (s.2 5 a1)] (us (ua s 22 (s.1 23) (w8 112)) 23 ((s.1 23) + 1)) (qv fun s5 => cm iv L h0 d 96 [vr 307, vi (s5.2 6 a1)] s5 (qv fun s6 => F s6))))) ∧ (s.2 4 a1 = 3 → (0 ≤ s.1 23 ∧ s.1 23 < 64) ∧ (-128 ≤ w8 102 ∧ w8 102 ≤ 127) ∧ (-2147483648 ≤ (s.1 23) + 1 ∧ (s.1 23) + 1 ≤ 2147483647) ∧ ((s.2 4 a1 < 3 → F (us (ua s 22 (s.1 23) (w8 102)) 23 ((s.1 23) + 1))) ∧ (3 ≤ s.2 4 a1 → cm iv L h0 d 96 [vr 307, vi (s.2 5 a1)] (us (ua s 22 (s.1 23) (w8 102)) 23 ((s.1 23) + 1)) (qv fun s10 => cm iv L h0 d 96 [vr 307, vi (s10.2 6 a1)] s10 (qv fun s11 => F s11))))))) ∧ (s.2 4 a1 = 2 → (0 ≤ s.1 23 ∧ s.1 23 < 64) ∧ (-128 ≤ w8 116 ∧ w8 116 ≤ 127) ∧ (-2147483648 ≤ (s.1 23) + 1 ∧ (s.1 23) + 1 ≤ 2147483647) ∧ ((s.2 4 a1 < 3 → F (us (ua s 22 (s.1 23) (w8 116)) 23 ((s.1 23) + 1))) ∧ (3 ≤ s.2 4 a1 → cm iv L h0 d 96 [vr 307, vi (s.2 5 a1)] (us (ua s 22 (s.1 23) (w8 116)) 23 ((s.1 23) + 1)) (qv fun s15 => cm iv L h0 d 96 [vr 307, vi (s15.2 6 a1)] s15 (qv fun s16 => F s16))))))) ∧ (s.2 4 a1 = 1 → (0 ≤ s.1 23 ∧ s.1 23 < 64) ∧ (-128 ≤ w8 119 ∧ w8 119 ≤ 127) ∧ (-2147483648 ≤ (s.1 23) + 1 ∧ (s.1 23) + 1 ≤ 2147483647) ∧ ((s.2 4 a1 < 3 → F (us (ua s 22 (s.1 23) (w8 119)) 23 ((s.1 23) + 1))) ∧ (3 ≤ s.2 4 a1 → cm iv L h0 d 96 [vr 307, vi (s.2 5 a1)] (us (ua s 22 (s.1 23) (w8 119)) 23 ((s.1 23) + 1)) (qv fun s20 => cm iv L h0 d 96 [vr 307, vi (s20.2 6 a1)] s20 (qv fun s21 => F s21))))))) ∧ (s.2 4 a1 = 0 → (0 ≤ s.1 23 ∧ s.1 23 < 64) ∧ (-128 ≤ w8 63 ∧ w8 63 ≤ 127) ∧ (-2147483648 ≤ (s.1 23) + 1 ∧ (s.1 23) + 1 ≤ 2147483647) ∧ ((s.2 4 a1 < 3 → F (us (ua s 22 (s.1 23) (w8 63)) 23 ((s.1 23) + 1))) ∧ (3 ≤ s.2 4 a1 → cm iv L h0 d 96 [vr 307, vi (s.2 5 a1)] (us (ua s 22 (s.1 23) (w8 63)) 23 ((s.1 23) + 1)) (qv fun s25 => cm iv L h0 d 96 [vr 307, vi (s25.2 6 a1)] s25 (qv fun s26 => F s26))))))) : cm iv L h0 (d + 1) 96 [vr 307, vi a1] s (qv F) := by
  show wm iv L h0 (d + 1) 96 0 [lr 307, li a1] [] s (qv F)
  refine w_aload_n rfl rfl ?_
  refine m_geta (t := 1) (k := 64) rfl rfl ?_
  refine w_aload_n rfl rfl ?_
  refine m_get rfl rfl ?_
  refine w_aload_n rfl rfl ?_
  refine m_geta (t := 0) (k := 6000) rfl rfl ?_
  refine w_iload_n rfl rfl ?_
  obtain ⟨g1, H⟩ := H
  refine m_ald rfl (f := 4) (k := 6000) rfl g1 ?_
  refine w_if_ne rfl (fun h => ?_) (fun h => ?_)
  · replace H := H.1 h
    refine w_aload_n rfl rfl ?_
    refine m_geta (t := 0) (k := 6000) rfl rfl ?_
    refine w_iload_n rfl rfl ?_
    refine m_ald rfl (f := 4) (k := 6000) rfl g1 ?_
    refine w_iconst (n := 1) rfl rfl ?_
    refine w_icmp_ne rfl (fun h => ?_) (fun h => ?_)
    · replace H := H.1 h
      refine w_aload_n rfl rfl ?_
      refine m_geta (t := 0) (k := 6000) rfl rfl ?_
      refine w_iload_n rfl rfl ?_
      refine m_ald rfl (f := 4) (k := 6000) rfl g1 ?_
      refine w_iconst (n := 2) rfl rfl ?_
      refine w_icmp_ne rfl (fun h => ?_) (fun h => ?_)
      · replace H := H.1 h
        refine w_aload_n rfl rfl ?_
        refine m_geta (t := 0) (k := 6000) rfl rfl ?_
        refine w_iload_n rfl rfl ?_
        refine m_ald rfl (f := 4) (k := 6000) rfl g1 ?_
        refine w_iconst (n := 3) rfl rfl ?_
        refine w_icmp_ne rfl (fun h => ?_) (fun h => ?_)
        · replace H := H.1 h
          refine w_bipush (n := 112) rfl rfl rfl ?_
          refine w_i2b rfl ?_
          obtain ⟨g2, H⟩ := H
          obtain ⟨g3, H⟩ := H
          refine m_bast (t := 1) rfl (f := 22) (k := 64) rfl g2 (Or.inl ⟨rfl, g3⟩) ?_
          refine w_aload_n rfl rfl ?_
          refine w_dup rfl rfl ?_
          refine m_get rfl rfl ?_
          show wm iv L h0 (d + 1) 96 76 [lr 307, li a1] [vi (s.1 23), vr 307] (ua s 22 (s.1 23) (w8 112)) (qv F)
          refine w_iconst (n := 1) rfl rfl ?_
          obtain ⟨g4, H⟩ := H
          refine w_iadd rfl g4 ?_
          refine m_put rfl rfl rfl ?_
          refine w_aload_n rfl rfl ?_
          refine m_geta (t := 0) (k := 6000) rfl rfl ?_
          refine w_iload_n rfl rfl ?_
          refine m_ald rfl (f := 4) (k := 6000) rfl g1 ?_
          show wm iv L h0 (d + 1) 96 87 [lr 307, li a1] [vi (s.2 4 a1)] (us (ua s 22 (s.1 23) (w8 112)) 23 ((s.1 23) + 1)) (qv F)
          refine w_iconst (n := 3) rfl rfl ?_
          refine w_icmp_lt rfl (fun h => ?_) (fun h => ?_)
          · replace H := H.1 h
            exact w_ret rfl rfl ⟨rfl, H⟩
          · replace H := H.2 h
            refine w_aload_n rfl rfl ?_
            refine w_aload_n rfl rfl ?_
            refine m_geta (t := 0) (k := 6000) rfl rfl ?_
            refine w_iload_n rfl rfl ?_
            refine m_ald rfl (f := 5) (k := 6000) rfl g1 ?_
            show wm iv L h0 (d + 1) 96 98 [lr 307, li a1] [vi (s.2 5 a1), vr 307] (us (ua s 22 (s.1 23) (w8 112)) 23 ((s.1 23) + 1)) (qv F)
            refine m_call (as := [vi (s.2 5 a1)]) (r := []) rfl rfl rfl rfl rfl rfl (wc_mono H (Nat.le_refl _) ?_)
            rintro _ s5 ⟨rfl, H⟩
            show wm iv L h0 (d + 1) 96 101 [lr 307, li a1] [] s5 (qv F)
            refine w_aload_n rfl rfl ?_
            refine w_aload_n rfl rfl ?_
            refine m_geta (t := 0) (k := 6000) rfl rfl ?_
            refine w_iload_n rfl rfl ?_
            refine m_ald rfl (f := 6) (k := 6000) rfl g1 ?_
            refine m_call (as := [vi (s5.2 6 a1)]) (r := []) rfl rfl rfl rfl rfl rfl (wc_mono H (Nat.le_refl _) ?_)
            rintro _ s6 ⟨rfl, H⟩
            show wm iv L h0 (d + 1) 96 111 [lr 307, li a1] [] s6 (qv F)
            exact w_ret rfl rfl ⟨rfl, H⟩
        · replace H := H.2 h
          refine w_bipush (n := 102) rfl rfl rfl ?_
          refine w_goto rfl ?_
          refine w_i2b rfl ?_
          obtain ⟨g7, H⟩ := H
          obtain ⟨g8, H⟩ := H
          refine m_bast (t := 1) rfl (f := 22) (k := 64) rfl g7 (Or.inl ⟨rfl, g8⟩) ?_
          refine w_aload_n rfl rfl ?_
          refine w_dup rfl rfl ?_
          refine m_get rfl rfl ?_
          show wm iv L h0 (d + 1) 96 76 [lr 307, li a1] [vi (s.1 23), vr 307] (ua s 22 (s.1 23) (w8 102)) (qv F)
          refine w_iconst (n := 1) rfl rfl ?_
          obtain ⟨g9, H⟩ := H
          refine w_iadd rfl g9 ?_
          refine m_put rfl rfl rfl ?_
          refine w_aload_n rfl rfl ?_
          refine m_geta (t := 0) (k := 6000) rfl rfl ?_
          refine w_iload_n rfl rfl ?_
          refine m_ald rfl (f := 4) (k := 6000) rfl g1 ?_
          show wm iv L h0 (d + 1) 96 87 [lr 307, li a1] [vi (s.2 4 a1)] (us (ua s 22 (s.1 23) (w8 102)) 23 ((s.1 23) + 1)) (qv F)
          refine w_iconst (n := 3) rfl rfl ?_
          refine w_icmp_lt rfl (fun h => ?_) (fun h => ?_)
          · replace H := H.1 h
            exact w_ret rfl rfl ⟨rfl, H⟩
          · replace H := H.2 h
            refine w_aload_n rfl rfl ?_
            refine w_aload_n rfl rfl ?_
            refine m_geta (t := 0) (k := 6000) rfl rfl ?_
            refine w_iload_n rfl rfl ?_
            refine m_ald rfl (f := 5) (k := 6000) rfl g1 ?_
            show wm iv L h0 (d + 1) 96 98 [lr 307, li a1] [vi (s.2 5 a1), vr 307] (us (ua s 22 (s.1 23) (w8 102)) 23 ((s.1 23) + 1)) (qv F)
            refine m_call (as := [vi (s.2 5 a1)]) (r := []) rfl rfl rfl rfl rfl rfl (wc_mono H (Nat.le_refl _) ?_)
            rintro _ s10 ⟨rfl, H⟩
            show wm iv L h0 (d + 1) 96 101 [lr 307, li a1] [] s10 (qv F)
            refine w_aload_n rfl rfl ?_
            refine w_aload_n rfl rfl ?_
            refine m_geta (t := 0) (k := 6000) rfl rfl ?_
            refine w_iload_n rfl rfl ?_
            refine m_ald rfl (f := 6) (k := 6000) rfl g1 ?_
            refine m_call (as := [vi (s10.2 6 a1)]) (r := []) rfl rfl rfl rfl rfl rfl (wc_mono H (Nat.le_refl _) ?_)
            rintro _ s11 ⟨rfl, H⟩
            show wm iv L h0 (d + 1) 96 111 [lr 307, li a1] [] s11 (qv F)
            exact w_ret rfl rfl ⟨rfl, H⟩
      · replace H := H.2 h
        refine w_bipush (n := 116) rfl rfl rfl ?_
        refine w_goto rfl ?_
        refine w_i2b rfl ?_
        obtain ⟨g12, H⟩ := H
        obtain ⟨g13, H⟩ := H
        refine m_bast (t := 1) rfl (f := 22) (k := 64) rfl g12 (Or.inl ⟨rfl, g13⟩) ?_
        refine w_aload_n rfl rfl ?_
        refine w_dup rfl rfl ?_
        refine m_get rfl rfl ?_
        show wm iv L h0 (d + 1) 96 76 [lr 307, li a1] [vi (s.1 23), vr 307] (ua s 22 (s.1 23) (w8 116)) (qv F)
        refine w_iconst (n := 1) rfl rfl ?_
        obtain ⟨g14, H⟩ := H
        refine w_iadd rfl g14 ?_
        refine m_put rfl rfl rfl ?_
        refine w_aload_n rfl rfl ?_
        refine m_geta (t := 0) (k := 6000) rfl rfl ?_
        refine w_iload_n rfl rfl ?_
        refine m_ald rfl (f := 4) (k := 6000) rfl g1 ?_
        show wm iv L h0 (d + 1) 96 87 [lr 307, li a1] [vi (s.2 4 a1)] (us (ua s 22 (s.1 23) (w8 116)) 23 ((s.1 23) + 1)) (qv F)
        refine w_iconst (n := 3) rfl rfl ?_
        refine w_icmp_lt rfl (fun h => ?_) (fun h => ?_)
        · replace H := H.1 h
          exact w_ret rfl rfl ⟨rfl, H⟩
        · replace H := H.2 h
          refine w_aload_n rfl rfl ?_
          refine w_aload_n rfl rfl ?_
          refine m_geta (t := 0) (k := 6000) rfl rfl ?_
          refine w_iload_n rfl rfl ?_
          refine m_ald rfl (f := 5) (k := 6000) rfl g1 ?_
          show wm iv L h0 (d + 1) 96 98 [lr 307, li a1] [vi (s.2 5 a1), vr 307] (us (ua s 22 (s.1 23) (w8 116)) 23 ((s.1 23) + 1)) (qv F)
          refine m_call (as := [vi (s.2 5 a1)]) (r := []) rfl rfl rfl rfl rfl rfl (wc_mono H (Nat.le_refl _) ?_)
          rintro _ s15 ⟨rfl, H⟩
          show wm iv L h0 (d + 1) 96 101 [lr 307, li a1] [] s15 (qv F)
          refine w_aload_n rfl rfl ?_
          refine w_aload_n rfl rfl ?_
          refine m_geta (t := 0) (k := 6000) rfl rfl ?_
          refine w_iload_n rfl rfl ?_
          refine m_ald rfl (f := 6) (k := 6000) rfl g1 ?_
          refine m_call (as := [vi (s15.2 6 a1)]) (r := []) rfl rfl rfl rfl rfl rfl (wc_mono H (Nat.le_refl _) ?_)
          rintro _ s16 ⟨rfl, H⟩
          show wm iv L h0 (d + 1) 96 111 [lr 307, li a1] [] s16 (qv F)
          exact w_ret rfl rfl ⟨rfl, H⟩
    · replace H := H.2 h
      refine w_bipush (n := 119) rfl rfl rfl ?_
      refine w_goto rfl ?_
      refine w_i2b rfl ?_
      obtain ⟨g17, H⟩ := H
      obtain ⟨g18, H⟩ := H
      refine m_bast (t := 1) rfl (f := 22) (k := 64) rfl g17 (Or.inl ⟨rfl, g18⟩) ?_
      refine w_aload_n rfl rfl ?_
      refine w_dup rfl rfl ?_
      refine m_get rfl rfl ?_
      show wm iv L h0 (d + 1) 96 76 [lr 307, li a1] [vi (s.1 23), vr 307] (ua s 22 (s.1 23) (w8 119)) (qv F)
      refine w_iconst (n := 1) rfl rfl ?_
      obtain ⟨g19, H⟩ := H
      refine w_iadd rfl g19 ?_
      refine m_put rfl rfl rfl ?_
      refine w_aload_n rfl rfl ?_
      refine m_geta (t := 0) (k := 6000) rfl rfl ?_
      refine w_iload_n rfl rfl ?_
      refine m_ald rfl (f := 4) (k := 6000) rfl g1 ?_
      show wm iv L h0 (d + 1) 96 87 [lr 307, li a1] [vi (s.2 4 a1)] (us (ua s 22 (s.1 23) (w8 119)) 23 ((s.1 23) + 1)) (qv F)
      refine w_iconst (n := 3) rfl rfl ?_
      refine w_icmp_lt rfl (fun h => ?_) (fun h => ?_)
      · replace H := H.1 h
        exact w_ret rfl rfl ⟨rfl, H⟩
      · replace H := H.2 h
        refine w_aload_n rfl rfl ?_
        refine w_aload_n rfl rfl ?_
        refine m_geta (t := 0) (k := 6000) rfl rfl ?_
        refine w_iload_n rfl rfl ?_
        refine m_ald rfl (f := 5) (k := 6000) rfl g1 ?_
        show wm iv L h0 (d + 1) 96 98 [lr 307, li a1] [vi (s.2 5 a1), vr 307] (us (ua s 22 (s.1 23) (w8 119)) 23 ((s.1 23) + 1)) (qv F)
        refine m_call (as := [vi (s.2 5 a1)]) (r := []) rfl rfl rfl rfl rfl rfl (wc_mono H (Nat.le_refl _) ?_)
        rintro _ s20 ⟨rfl, H⟩
        show wm iv L h0 (d + 1) 96 101 [lr 307, li a1] [] s20 (qv F)
        refine w_aload_n rfl rfl ?_
        refine w_aload_n rfl rfl ?_
        refine m_geta (t := 0) (k := 6000) rfl rfl ?_
        refine w_iload_n rfl rfl ?_
        refine m_ald rfl (f := 6) (k := 6000) rfl g1 ?_
        refine m_call (as := [vi (s20.2 6 a1)]) (r := []) rfl rfl rfl rfl rfl rfl (wc_mono H (Nat.le_refl _) ?_)
        rintro _ s21 ⟨rfl, H⟩
        show wm iv L h0 (d + 1) 96 111 [lr 307, li a1] [] s21 (qv F)
        exact w_ret rfl rfl ⟨rfl, H⟩
  · replace H := H.2 h
    refine w_bipush (n := 63) rfl rfl rfl ?_
    refine w_goto rfl ?_
    refine w_i2b rfl ?_
    obtain ⟨g22, H⟩ := H
    obtain ⟨g23, H⟩ := H
    refine m_bast (t := 1) rfl (f := 22) (k := 64) rfl g22 (Or.inl ⟨rfl, g23⟩) ?_
    refine w_aload_n rfl rfl ?_
    refine w_dup rfl rfl ?_
    refine m_get rfl rfl ?_
    show wm iv L h0 (d + 1) 96 76 [lr 307, li a1] [vi (s.1 23), vr 307] (ua s 22 (s.1 23) (w8 63)) (qv F)
    refine w_iconst (n := 1) rfl rfl ?_
    obtain ⟨g24, H⟩ := H
    refine w_iadd rfl g24 ?_
    refine m_put rfl rfl rfl ?_
    refine w_aload_n rfl rfl ?_
    refine m_geta (t := 0) (k := 6000) rfl rfl ?_
    refine w_iload_n rfl rfl ?_
    refine m_ald rfl (f := 4) (k := 6000) rfl g1 ?_
    show wm iv L h0 (d + 1) 96 87 [lr 307, li a1] [vi (s.2 4 a1)] (us (ua s 22 (s.1 23) (w8 63)) 23 ((s.1 23) + 1)) (qv F)
    refine w_iconst (n := 3) rfl rfl ?_
    refine w_icmp_lt rfl (fun h => ?_) (fun h => ?_)
    · replace H := H.1 h
      exact w_ret rfl rfl ⟨rfl, H⟩
    · replace H := H.2 h
      refine w_aload_n rfl rfl ?_
      refine w_aload_n rfl rfl ?_
      refine m_geta (t := 0) (k := 6000) rfl rfl ?_
      refine w_iload_n rfl rfl ?_
      refine m_ald rfl (f := 5) (k := 6000) rfl g1 ?_
      show wm iv L h0 (d + 1) 96 98 [lr 307, li a1] [vi (s.2 5 a1), vr 307] (us (ua s 22 (s.1 23) (w8 63)) 23 ((s.1 23) + 1)) (qv F)
      refine m_call (as := [vi (s.2 5 a1)]) (r := []) rfl rfl rfl rfl rfl rfl (wc_mono H (Nat.le_refl _) ?_)
      rintro _ s25 ⟨rfl, H⟩
      show wm iv L h0 (d + 1) 96 101 [lr 307, li a1] [] s25 (qv F)
      refine w_aload_n rfl rfl ?_
      refine w_aload_n rfl rfl ?_
      refine m_geta (t := 0) (k := 6000) rfl rfl ?_
      refine w_iload_n rfl rfl ?_
      refine m_ald rfl (f := 6) (k := 6000) rfl g1 ?_
      refine m_call (as := [vi (s25.2 6 a1)]) (r := []) rfl rfl rfl rfl rfl rfl (wc_mono H (Nat.le_refl _) ?_)
      rintro _ s26 ⟨rfl, H⟩
      show wm iv L h0 (d + 1) 96 111 [lr 307, li a1] [] s26 (qv F)
      exact w_ret rfl rfl ⟨rfl, H⟩

/-- HoleDeskModel.sign(IZI)I -/
theorem B97 {iv : List (Int × Int)} {L : Nat} {h0 : MH} {d : Nat} {s : SM} {a1 : Int} {a2 : Int} {a3 : Int} {F : Int → SM → Prop} (H : cm iv L h0 d 80 [vr 307, vi a1] s (qi fun r2 s1 => ((r2 = 0 → F (-1) s1) ∧ (r2 ≠ 0 → ((0 ≤ a3 → cm iv L h0 d 86 [vr 307] s1 (qv fun s3 => ((a2 = 0 → (0 ≤ a1 ∧ a1 < 3004) ∧ ((s3.2 19 a1 ≠ (-1) → cm iv L h0 d 96 [vr 307, vi (s3.2 19 a1)] (us s3 23 0) (qv fun s5 => ((s5.1 23 ≤ a3 → F (-9) s5) ∧ (a3 < s5.1 23 → (0 ≤ a3 ∧ a3 < 64) ∧ F (s5.2 22 a3) s5)))) ∧ (s3.2 19 a1 = (-1) → F (-9) s3))) ∧ (a2 ≠ 0 → (0 ≤ a1 ∧ a1 < 3004) ∧ ((s3.2 20 a1 ≠ (-1) → cm iv L h0 d 96 [vr 307, vi (s3.2 20 a1)] (us s3 23 0) (qv fun s8 => ((s8.1 23 ≤ a3 → F (-9) s8) ∧ (a3 < s8.1 23 → (0 ≤ a3 ∧ a3 < 64) ∧ F (s8.2 22 a3) s8)))) ∧ (s3.2 20 a1 = (-1) → F (-9) s3)))))) ∧ (a3 < 0 → F (-1) s1)))))) : cm iv L h0 (d + 1) 97 [vr 307, vi a1, vi a2, vi a3] s (qi F) := by
  show wm iv L h0 (d + 1) 97 0 [lr 307, li a1, li a2, li a3] [] s (qi F)
  refine w_aload_n rfl rfl ?_
  refine w_iload_n rfl rfl ?_
  refine m_call (as := [vi a1]) (r := []) rfl rfl rfl rfl rfl rfl (wc_mono H (Nat.le_refl _) ?_)
  rintro _ s1 ⟨r2, rfl, H⟩
  show wm iv L h0 (d + 1) 97 5 [lr 307, li a1, li a2, li a3] [vi r2] s1 (qi F)
  refine w_if_eq rfl (fun h => ?_) (fun h => ?_)
  · replace H := H.1 h
    refine w_iconst (n := (-1)) rfl rfl ?_
    exact w_iret rfl rfl ⟨_, rfl, H⟩
  · replace H := H.2 h
    refine w_iload_n rfl rfl ?_
    refine w_if_ge rfl (fun h => ?_) (fun h => ?_)
    · replace H := H.1 h
      refine w_aload_n rfl rfl ?_
      refine m_call (as := []) (r := []) rfl rfl rfl rfl rfl rfl (wc_mono H (Nat.le_refl _) ?_)
      rintro _ s3 ⟨rfl, H⟩
      show wm iv L h0 (d + 1) 97 18 [lr 307, li a1, li a2, li a3] [] s3 (qi F)
      refine w_iload_n rfl rfl ?_
      refine w_if_eq rfl (fun h => ?_) (fun h => ?_)
      · replace H := H.1 h
        refine w_aload_n rfl rfl ?_
        refine m_geta (t := 0) (k := 3004) rfl rfl ?_
        refine w_iload_n rfl rfl ?_
        obtain ⟨g4, H⟩ := H
        refine m_ald rfl (f := 19) (k := 3004) rfl g4 ?_
        refine w_istore rfl rfl ?_
        refine w_iload rfl rfl ?_
        refine w_iconst (n := (-1)) rfl rfl ?_
        refine w_icmp_ne rfl (fun h => ?_) (fun h => ?_)
        · replace H := H.1 h
          refine w_aload_n rfl rfl ?_
          refine w_iconst (n := 0) rfl rfl ?_
          refine m_put rfl rfl rfl ?_
          refine w_aload_n rfl rfl ?_
          refine w_iload rfl rfl ?_
          refine m_call (as := [vi (s3.2 19 a1)]) (r := []) rfl rfl rfl rfl rfl rfl (wc_mono H (Nat.le_refl _) ?_)
          rintro _ s5 ⟨rfl, H⟩
          show wm iv L h0 (d + 1) 97 59 [lr 307, li a1, li a2, li a3, li (s3.2 19 a1)] [] s5 (qi F)
          refine w_iload_n rfl rfl ?_
          refine w_aload_n rfl rfl ?_
          refine m_get rfl rfl ?_
          refine w_icmp_ge rfl (fun h => ?_) (fun h => ?_)
          · replace H := H.1 h
            refine w_bipush (n := (-9)) rfl rfl rfl ?_
            exact w_iret rfl rfl ⟨_, rfl, H⟩
          · replace H := H.2 h
            refine w_aload_n rfl rfl ?_
            refine m_geta (t := 1) (k := 64) rfl rfl ?_
            refine w_iload_n rfl rfl ?_
            obtain ⟨g6, H⟩ := H
            refine m_bald (t := 1) rfl (f := 22) (k := 64) rfl g6 ?_
            refine w_goto rfl ?_
            exact w_iret rfl rfl ⟨_, rfl, H⟩
        · replace H := H.2 h
          refine w_bipush (n := (-9)) rfl rfl rfl ?_
          exact w_iret rfl rfl ⟨_, rfl, H⟩
      · replace H := H.2 h
        refine w_aload_n rfl rfl ?_
        refine m_geta (t := 0) (k := 3004) rfl rfl ?_
        refine w_iload_n rfl rfl ?_
        obtain ⟨g7, H⟩ := H
        refine m_ald rfl (f := 20) (k := 3004) rfl g7 ?_
        refine w_goto rfl ?_
        refine w_istore rfl rfl ?_
        refine w_iload rfl rfl ?_
        refine w_iconst (n := (-1)) rfl rfl ?_
        refine w_icmp_ne rfl (fun h => ?_) (fun h => ?_)
        · replace H := H.1 h
          refine w_aload_n rfl rfl ?_
          refine w_iconst (n := 0) rfl rfl ?_
          refine m_put rfl rfl rfl ?_
          refine w_aload_n rfl rfl ?_
          refine w_iload rfl rfl ?_
          refine m_call (as := [vi (s3.2 20 a1)]) (r := []) rfl rfl rfl rfl rfl rfl (wc_mono H (Nat.le_refl _) ?_)
          rintro _ s8 ⟨rfl, H⟩
          show wm iv L h0 (d + 1) 97 59 [lr 307, li a1, li a2, li a3, li (s3.2 20 a1)] [] s8 (qi F)
          refine w_iload_n rfl rfl ?_
          refine w_aload_n rfl rfl ?_
          refine m_get rfl rfl ?_
          refine w_icmp_ge rfl (fun h => ?_) (fun h => ?_)
          · replace H := H.1 h
            refine w_bipush (n := (-9)) rfl rfl rfl ?_
            exact w_iret rfl rfl ⟨_, rfl, H⟩
          · replace H := H.2 h
            refine w_aload_n rfl rfl ?_
            refine m_geta (t := 1) (k := 64) rfl rfl ?_
            refine w_iload_n rfl rfl ?_
            obtain ⟨g9, H⟩ := H
            refine m_bald (t := 1) rfl (f := 22) (k := 64) rfl g9 ?_
            refine w_goto rfl ?_
            exact w_iret rfl rfl ⟨_, rfl, H⟩
        · replace H := H.2 h
          refine w_bipush (n := (-9)) rfl rfl rfl ?_
          exact w_iret rfl rfl ⟨_, rfl, H⟩
    · replace H := H.2 h
      refine w_iconst (n := (-1)) rfl rfl ?_
      exact w_iret rfl rfl ⟨_, rfl, H⟩

/-- HoleDeskModel.hole(IZ)I -/
theorem B98 {iv : List (Int × Int)} {L : Nat} {h0 : MH} {d : Nat} {s : SM} {a1 : Int} {a2 : Int} {F : Int → SM → Prop} (H : cm iv L h0 d 86 [vr 307] s (qv fun s1 => cm iv L h0 d 79 [vr 307] s1 (qv fun s2 => wm iv L h0 (d + 1) 98 13 [lr 307, li a1, li a2, li a1, li 0] [] s2 (qi F)))) : cm iv L h0 (d + 1) 98 [vr 307, vi a1, vi a2] s (qi F) := by
  show wm iv L h0 (d + 1) 98 0 [lr 307, li a1, li a2] [] s (qi F)
  refine w_aload_n rfl rfl ?_
  refine m_call (as := []) (r := []) rfl rfl rfl rfl rfl rfl (wc_mono H (Nat.le_refl _) ?_)
  rintro _ s1 ⟨rfl, H⟩
  show wm iv L h0 (d + 1) 98 4 [lr 307, li a1, li a2] [] s1 (qi F)
  refine w_aload_n rfl rfl ?_
  refine m_call (as := []) (r := []) rfl rfl rfl rfl rfl rfl (wc_mono H (Nat.le_refl _) ?_)
  rintro _ s2 ⟨rfl, H⟩
  show wm iv L h0 (d + 1) 98 8 [lr 307, li a1, li a2] [] s2 (qi F)
  refine w_iload_n rfl rfl ?_
  refine w_istore_n rfl rfl ?_
  refine w_iconst (n := 0) rfl rfl ?_
  refine w_istore rfl rfl ?_
  exact wp_ls (sl_s (sl_s (sl_s (sl_s (sl_s (sl_0)))))) H

/-- HoleDeskModel.hole(IZ)I at 13 -/
theorem B98_13 {iv : List (Int × Int)} {L : Nat} {h0 : MH} {d : Nat} {s : SM} {l1 : Int} {l2 : Int} {l3 : Int} {l4 : Int} {F : Int → SM → Prop} (H : ((s.1 18 ≤ l4 → F (-9) s) ∧ (l4 < s.1 18 → ((l1 < 0 → F (-9) s) ∧ (0 ≤ l1 → ((l2 = 0 → (0 ≤ l4 ∧ l4 < 80) ∧ (0 ≤ s.2 17 l4 ∧ s.2 17 l4 < 3004) ∧ ((s.2 9 (s.2 17 l4) ≠ 0 → (-2147483648 ≤ l4 + 1 ∧ l4 + 1 ≤ 2147483647) ∧ wm iv L h0 (d + 1) 98 13 [lr 307, li l1, li l2, li l3, li (l4 + 1)] [] s (qi F)) ∧ (s.2 9 (s.2 17 l4) = 0 → ((l3 ≠ 0 → (-2147483648 ≤ l3 - 1 ∧ l3 - 1 ≤ 2147483647) ∧ (-2147483648 ≤ l4 + 1 ∧ l4 + 1 ≤ 2147483647) ∧ wm iv L h0 (d + 1) 98 13 [lr 307, li l1, li l2, li (l3 - 1), li (l4 + 1)] [] s (qi F)) ∧ (l3 = 0 → F (s.2 17 l4) s))))) ∧ (l2 ≠ 0 → (0 ≤ l4 ∧ l4 < 80) ∧ (0 ≤ s.2 17 l4 ∧ s.2 17 l4 < 3004) ∧ ((s.2 21 (s.2 17 l4) ≤ 0 → (-2147483648 ≤ l4 + 1 ∧ l4 + 1 ≤ 2147483647) ∧ wm iv L h0 (d + 1) 98 13 [lr 307, li l1, li l2, li l3, li (l4 + 1)] [] s (qi F)) ∧ (0 < s.2 21 (s.2 17 l4) → ((l3 ≠ 0 → (-2147483648 ≤ l3 - 1 ∧ l3 - 1 ≤ 2147483647) ∧ (-2147483648 ≤ l4 + 1 ∧ l4 + 1 ≤ 2147483647) ∧ wm iv L h0 (d + 1) 98 13 [lr 307, li l1, li l2, li (l3 - 1), li (l4 + 1)] [] s (qi F)) ∧ (l3 = 0 → F (s.2 17 l4) s))))))))))) : wm iv L h0 (d + 1) 98 13 [lr 307, li l1, li l2, li l3, li l4] [] s (qi F) := by
  refine w_iload rfl rfl ?_
  refine w_aload_n rfl rfl ?_
  refine m_get rfl rfl ?_
  refine w_icmp_ge rfl (fun h => ?_) (fun h => ?_)
  · replace H := H.1 h
    refine w_bipush (n := (-9)) rfl rfl rfl ?_
    exact w_iret rfl rfl ⟨_, rfl, H⟩
  · replace H := H.2 h
    refine w_iload_n rfl rfl ?_
    refine w_if_lt rfl (fun h => ?_) (fun h => ?_)
    · replace H := H.1 h
      refine w_bipush (n := (-9)) rfl rfl rfl ?_
      exact w_iret rfl rfl ⟨_, rfl, H⟩
    · replace H := H.2 h
      refine w_iload_n rfl rfl ?_
      refine w_if_eq rfl (fun h => ?_) (fun h => ?_)
      · replace H := H.1 h
        refine w_aload_n rfl rfl ?_
        refine m_geta (t := 0) (k := 3004) rfl rfl ?_
        refine w_aload_n rfl rfl ?_
        refine m_geta (t := 0) (k := 80) rfl rfl ?_
        refine w_iload rfl rfl ?_
        obtain ⟨g1, H⟩ := H
        refine m_ald rfl (f := 17) (k := 80) rfl g1 ?_
        obtain ⟨g2, H⟩ := H
        refine m_ald rfl (f := 9) (k := 3004) rfl g2 ?_
        refine w_if_ne rfl (fun h => ?_) (fun h => ?_)
        · replace H := H.1 h
          obtain ⟨g3, H⟩ := H
          refine w_iinc rfl rfl rfl g3 ?_
          refine w_goto rfl ?_
          exact wp_ls (sl_s (sl_s (sl_s (sl_s (sl_s (sl_0)))))) H
        · replace H := H.2 h
          refine w_iload_n rfl rfl ?_
          refine w_if_ne rfl (fun h => ?_) (fun h => ?_)
          · replace H := H.1 h
            obtain ⟨g4, H⟩ := H
            refine w_iinc rfl rfl rfl g4 ?_
            show wm iv L h0 (d + 1) 98 78 [lr 307, li l1, li l2, li (l3 - 1), li l4] [] s (qi F)
            obtain ⟨g5, H⟩ := H
            refine w_iinc rfl rfl rfl g5 ?_
            refine w_goto rfl ?_
            exact wp_ls (sl_s (sl_s (sl_s (sl_s (sl_s (sl_0)))))) H
          · replace H := H.2 h
            refine w_aload_n rfl rfl ?_
            refine m_geta (t := 0) (k := 80) rfl rfl ?_
            refine w_iload rfl rfl ?_
            refine m_ald rfl (f := 17) (k := 80) rfl g1 ?_
            exact w_iret rfl rfl ⟨_, rfl, H⟩
      · replace H := H.2 h
        refine w_aload_n rfl rfl ?_
        refine m_geta (t := 0) (k := 3004) rfl rfl ?_
        refine w_aload_n rfl rfl ?_
        refine m_geta (t := 0) (k := 80) rfl rfl ?_
        refine w_iload rfl rfl ?_
        obtain ⟨g6, H⟩ := H
        refine m_ald rfl (f := 17) (k := 80) rfl g6 ?_
        obtain ⟨g7, H⟩ := H
        refine m_ald rfl (f := 21) (k := 3004) rfl g7 ?_
        refine w_if_le rfl (fun h => ?_) (fun h => ?_)
        · replace H := H.1 h
          obtain ⟨g8, H⟩ := H
          refine w_iinc rfl rfl rfl g8 ?_
          refine w_goto rfl ?_
          exact wp_ls (sl_s (sl_s (sl_s (sl_s (sl_s (sl_0)))))) H
        · replace H := H.2 h
          refine w_goto rfl ?_
          refine w_iload_n rfl rfl ?_
          refine w_if_ne rfl (fun h => ?_) (fun h => ?_)
          · replace H := H.1 h
            obtain ⟨g9, H⟩ := H
            refine w_iinc rfl rfl rfl g9 ?_
            show wm iv L h0 (d + 1) 98 78 [lr 307, li l1, li l2, li (l3 - 1), li l4] [] s (qi F)
            obtain ⟨g10, H⟩ := H
            refine w_iinc rfl rfl rfl g10 ?_
            refine w_goto rfl ?_
            exact wp_ls (sl_s (sl_s (sl_s (sl_s (sl_s (sl_0)))))) H
          · replace H := H.2 h
            refine w_aload_n rfl rfl ?_
            refine m_geta (t := 0) (k := 80) rfl rfl ?_
            refine w_iload rfl rfl ?_
            refine m_ald rfl (f := 17) (k := 80) rfl g6 ?_
            exact w_iret rfl rfl ⟨_, rfl, H⟩

/-- HoleDeskModel.beginAct()V -/
theorem B99 {iv : List (Int × Int)} {L : Nat} {h0 : MH} {d : Nat} {s : SM} {F : SM → Prop} (H : cm iv L h0 d 79 [vr 307] s (qv fun s1 => wm iv L h0 (d + 1) 99 22 [lr 307, li 0] [] (us (us s1 30 (s1.1 18)) 31 (s1.1 16)) (qv F))) : cm iv L h0 (d + 1) 99 [vr 307] s (qv F) := by
  show wm iv L h0 (d + 1) 99 0 [lr 307] [] s (qv F)
  refine w_aload_n rfl rfl ?_
  refine m_call (as := []) (r := []) rfl rfl rfl rfl rfl rfl (wc_mono H (Nat.le_refl _) ?_)
  rintro _ s1 ⟨rfl, H⟩
  show wm iv L h0 (d + 1) 99 4 [lr 307] [] s1 (qv F)
  refine w_aload_n rfl rfl ?_
  refine w_aload_n rfl rfl ?_
  refine m_get rfl rfl ?_
  refine m_put rfl rfl rfl ?_
  refine w_aload_n rfl rfl ?_
  refine w_aload_n rfl rfl ?_
  refine m_get rfl rfl ?_
  show wm iv L h0 (d + 1) 99 17 [lr 307] [vi (s1.1 16), vr 307] (us s1 30 (s1.1 18)) (qv F)
  refine m_put rfl rfl rfl ?_
  refine w_iconst (n := 0) rfl rfl ?_
  refine w_istore_n rfl rfl ?_
  exact wp_ls (sl_s (sl_s (sl_0))) H

/-- HoleDeskModel.beginAct()V at 22 -/
theorem B99_22 {iv : List (Int × Int)} {L : Nat} {h0 : MH} {d : Nat} {s : SM} {l1 : Int} {F : SM → Prop} (H : ((s.1 18 ≤ l1 → F s) ∧ (l1 < s.1 18 → (0 ≤ l1 ∧ l1 < 80) ∧ (0 ≤ s.2 17 l1 ∧ s.2 17 l1 < 3004) ∧ wm iv L h0 (d + 1) 99 61 [lr 307, li l1, li 0] [] (ua (ua s 32 l1 (s.2 17 l1)) 33 l1 (s.2 10 (s.2 17 l1))) (qv F)))) : wm iv L h0 (d + 1) 99 22 [lr 307, li l1] [] s (qv F) := by
  refine w_iload_n rfl rfl ?_
  refine w_aload_n rfl rfl ?_
  refine m_get rfl rfl ?_
  refine w_icmp_ge rfl (fun h => ?_) (fun h => ?_)
  · replace H := H.1 h
    exact w_ret rfl rfl ⟨rfl, H⟩
  · replace H := H.2 h
    refine w_aload_n rfl rfl ?_
    refine m_geta (t := 0) (k := 80) rfl rfl ?_
    refine w_iload_n rfl rfl ?_
    refine w_aload_n rfl rfl ?_
    refine m_geta (t := 0) (k := 80) rfl rfl ?_
    refine w_iload_n rfl rfl ?_
    obtain ⟨g1, H⟩ := H
    refine m_ald rfl (f := 17) (k := 80) rfl g1 ?_
    refine m_ast rfl (f := 32) (k := 80) rfl g1 ?_
    refine w_aload_n rfl rfl ?_
    refine m_geta (t := 0) (k := 80) rfl rfl ?_
    refine w_iload_n rfl rfl ?_
    refine w_aload_n rfl rfl ?_
    refine m_geta (t := 0) (k := 3004) rfl rfl ?_
    refine w_aload_n rfl rfl ?_
    refine m_geta (t := 0) (k := 80) rfl rfl ?_
    refine w_iload_n rfl rfl ?_
    refine m_ald rfl (f := 17) (k := 80) rfl g1 ?_
    show wm iv L h0 (d + 1) 99 57 [lr 307, li l1] [vi (s.2 17 l1), vr 314, vi l1, vr 330] (ua s 32 l1 (s.2 17 l1)) (qv F)
    obtain ⟨g2, H⟩ := H
    refine m_ald rfl (f := 10) (k := 3004) rfl g2 ?_
    show wm iv L h0 (d + 1) 99 58 [lr 307, li l1] [vi (s.2 10 (s.2 17 l1)), vi l1, vr 330] (ua s 32 l1 (s.2 17 l1)) (qv F)
    refine m_ast rfl (f := 33) (k := 80) rfl g1 ?_
    refine w_iconst (n := 0) rfl rfl ?_
    refine w_istore_n rfl rfl ?_
    exact wp_ls (sl_s (sl_s (sl_s (sl_0)))) H

/-- HoleDeskModel.beginAct()V at 61 -/
theorem B99_61 {iv : List (Int × Int)} {L : Nat} {h0 : MH} {d : Nat} {s : SM} {l1 : Int} {l2 : Int} {F : SM → Prop} (H : ((3 ≤ l2 → (-2147483648 ≤ l1 + 1 ∧ l1 + 1 ≤ 2147483647) ∧ wm iv L h0 (d + 1) 99 22 [lr 307, li (l1 + 1)] [] s (qv F)) ∧ (l2 < 3 → (-2147483648 ≤ 3 * l1 ∧ 3 * l1 ≤ 2147483647) ∧ (-2147483648 ≤ (3 * l1) + l2 ∧ (3 * l1) + l2 ≤ 2147483647) ∧ (0 ≤ l1 ∧ l1 < 80) ∧ (-2147483648 ≤ 3 * (s.2 17 l1) ∧ 3 * (s.2 17 l1) ≤ 2147483647) ∧ (-2147483648 ≤ (3 * (s.2 17 l1)) + l2 ∧ (3 * (s.2 17 l1)) + l2 ≤ 2147483647) ∧ (0 ≤ (3 * (s.2 17 l1)) + l2 ∧ (3 * (s.2 17 l1)) + l2 < 9012) ∧ (0 ≤ (3 * l1) + l2 ∧ (3 * l1) + l2 < 240) ∧ (-2147483648 ≤ l2 + 1 ∧ l2 + 1 ≤ 2147483647) ∧ wm iv L h0 (d + 1) 99 61 [lr 307, li l1, li (l2 + 1)] [] (ua s 34 ((3 * l1) + l2) (s.2 14 ((3 * (s.2 17 l1)) + l2))) (qv F)))) : wm iv L h0 (d + 1) 99 61 [lr 307, li l1, li l2] [] s (qv F) := by
  refine w_iload_n rfl rfl ?_
  refine w_iconst (n := 3) rfl rfl ?_
  refine w_icmp_ge rfl (fun h => ?_) (fun h => ?_)
  · replace H := H.1 h
    obtain ⟨g1, H⟩ := H
    refine w_iinc rfl rfl rfl g1 ?_
    refine w_goto rfl ?_
    exact wp_ls (sl_s (sl_s (sl_0))) H
  · replace H := H.2 h
    refine w_aload_n rfl rfl ?_
    refine m_geta (t := 0) (k := 240) rfl rfl ?_
    refine w_iconst (n := 3) rfl rfl ?_
    refine w_iload_n rfl rfl ?_
    obtain ⟨g2, H⟩ := H
    refine w_imul rfl g2 ?_
    refine w_iload_n rfl rfl ?_
    obtain ⟨g3, H⟩ := H
    refine w_iadd rfl g3 ?_
    refine w_aload_n rfl rfl ?_
    refine m_geta (t := 0) (k := 9012) rfl rfl ?_
    refine w_iconst (n := 3) rfl rfl ?_
    refine w_aload_n rfl rfl ?_
    refine m_geta (t := 0) (k := 80) rfl rfl ?_
    refine w_iload_n rfl rfl ?_
    obtain ⟨g4, H⟩ := H
    refine m_ald rfl (f := 17) (k := 80) rfl g4 ?_
    obtain ⟨g5, H⟩ := H
    refine w_imul rfl g5 ?_
    refine w_iload_n rfl rfl ?_
    obtain ⟨g6, H⟩ := H
    refine w_iadd rfl g6 ?_
    obtain ⟨g7, H⟩ := H
    refine m_ald rfl (f := 14) (k := 9012) rfl g7 ?_
    obtain ⟨g8, H⟩ := H
    refine m_ast rfl (f := 34) (k := 240) rfl g8 ?_
    obtain ⟨g9, H⟩ := H
    refine w_iinc rfl rfl rfl g9 ?_
    refine w_goto rfl ?_
    exact wp_ls (sl_s (sl_s (sl_s (sl_0)))) H

/-- HoleDeskModel.endAct(Z)V -/
theorem B100 {iv : List (Int × Int)} {L : Nat} {h0 : MH} {d : Nat} {s : SM} {a1 : Int} {F : SM → Prop} (H : ((s.1 24 ≠ 20 → (0 ≤ s.1 24 ∧ s.1 24 < 20) ∧ wm iv L h0 d 100 165 [lr 307, li a1, li 0] [] (ua (ua s 25 (s.1 24) (s.1 30)) 26 (s.1 24) (s.1 31)) (qv F)) ∧ (s.1 24 = 20 → wm iv L h0 d 100 11 [lr 307, li a1, li 1] [] s (qv F)))) : cm iv L h0 d 100 [vr 307, vi a1] s (qv F) := by
  show wm iv L h0 d 100 0 [lr 307, li a1] [] s (qv F)
  refine w_aload_n rfl rfl ?_
  refine m_get rfl rfl ?_
  refine w_bipush (n := 20) rfl rfl rfl ?_
  refine w_icmp_ne rfl (fun h => ?_) (fun h => ?_)
  · replace H := H.1 h
    refine w_aload_n rfl rfl ?_
    refine m_geta (t := 0) (k := 20) rfl rfl ?_
    refine w_aload_n rfl rfl ?_
    refine m_get rfl rfl ?_
    refine w_aload_n rfl rfl ?_
    refine m_get rfl rfl ?_
    obtain ⟨g1, H⟩ := H
    refine m_ast rfl (f := 25) (k := 20) rfl g1 ?_
    refine w_aload_n rfl rfl ?_
    refine m_geta (t := 0) (k := 20) rfl rfl ?_
    refine w_aload_n rfl rfl ?_
    refine m_get rfl rfl ?_
    show wm iv L h0 d 100 158 [lr 307, li a1] [vi (s.1 24), vr 325] (ua s 25 (s.1 24) (s.1 30)) (qv F)
    refine w_aload_n rfl rfl ?_
    refine m_get rfl rfl ?_
    show wm iv L h0 d 100 162 [lr 307, li a1] [vi (s.1 31), vi (s.1 24), vr 325] (ua s 25 (s.1 24) (s.1 30)) (qv F)
    refine m_ast rfl (f := 26) (k := 20) rfl g1 ?_
    refine w_iconst (n := 0) rfl rfl ?_
    refine w_istore_n rfl rfl ?_
    exact wp_ls (sl_s (sl_s (sl_s (sl_0)))) H
  · replace H := H.2 h
    refine w_iconst (n := 1) rfl rfl ?_
    refine w_istore_n rfl rfl ?_
    exact wp_ls (sl_s (sl_s (sl_s (sl_0)))) H

/-- HoleDeskModel.endAct(Z)V at 11 -/
theorem B100_11 {iv : List (Int × Int)} {L : Nat} {h0 : MH} {d : Nat} {s : SM} {l1 : Int} {l2 : Int} {F : SM → Prop} (H : ((20 ≤ l2 → wm iv L h0 d 100 53 [lr 307, li l1, li 0] [] s (qv F)) ∧ (l2 < 20 → (-2147483648 ≤ l2 - 1 ∧ l2 - 1 ≤ 2147483647) ∧ (0 ≤ l2 ∧ l2 < 20) ∧ (0 ≤ l2 - 1 ∧ l2 - 1 < 20) ∧ (-2147483648 ≤ l2 + 1 ∧ l2 + 1 ≤ 2147483647) ∧ wm iv L h0 d 100 11 [lr 307, li l1, li (l2 + 1)] [] (ua (ua s 25 (l2 - 1) (s.2 25 l2)) 26 (l2 - 1) (s.2 26 l2)) (qv F)))) : wm iv L h0 d 100 11 [lr 307, li l1, li l2] [] s (qv F) := by
  refine w_iload_n rfl rfl ?_
  refine w_bipush (n := 20) rfl rfl rfl ?_
  refine w_icmp_ge rfl (fun h => ?_) (fun h => ?_)
  · replace H := H.1 h
    refine w_iconst (n := 0) rfl rfl ?_
    refine w_istore_n rfl rfl ?_
    exact wp_ls (sl_s (sl_s (sl_s (sl_0)))) H
  · replace H := H.2 h
    refine w_aload_n rfl rfl ?_
    refine m_geta (t := 0) (k := 20) rfl rfl ?_
    refine w_iload_n rfl rfl ?_
    refine w_iconst (n := 1) rfl rfl ?_
    obtain ⟨g1, H⟩ := H
    refine w_isub rfl g1 ?_
    refine w_aload_n rfl rfl ?_
    refine m_geta (t := 0) (k := 20) rfl rfl ?_
    refine w_iload_n rfl rfl ?_
    obtain ⟨g2, H⟩ := H
    refine m_ald rfl (f := 25) (k := 20) rfl g2 ?_
    obtain ⟨g3, H⟩ := H
    refine m_ast rfl (f := 25) (k := 20) rfl g3 ?_
    refine w_aload_n rfl rfl ?_
    refine m_geta (t := 0) (k := 20) rfl rfl ?_
    refine w_iload_n rfl rfl ?_
    refine w_iconst (n := 1) rfl rfl ?_
    refine w_isub rfl g1 ?_
    refine w_aload_n rfl rfl ?_
    refine m_geta (t := 0) (k := 20) rfl rfl ?_
    refine w_iload_n rfl rfl ?_
    refine m_ald rfl (f := 26) (k := 20) rfl g2 ?_
    show wm iv L h0 d 100 44 [lr 307, li l1, li l2] [vi (s.2 26 l2), vi (l2 - 1), vr 325] (ua s 25 (l2 - 1) (s.2 25 l2)) (qv F)
    refine m_ast rfl (f := 26) (k := 20) rfl g3 ?_
    obtain ⟨g4, H⟩ := H
    refine w_iinc rfl rfl rfl g4 ?_
    refine w_goto rfl ?_
    exact wp_ls (sl_s (sl_s (sl_s (sl_0)))) H

/-- HoleDeskModel.endAct(Z)V at 53 -/
theorem B100_53 {iv : List (Int × Int)} {L : Nat} {h0 : MH} {d : Nat} {s : SM} {l1 : Int} {l2 : Int} {F : SM → Prop} (H : ((1520 ≤ l2 → wm iv L h0 d 100 98 [lr 307, li l1, li 0] [] s (qv F)) ∧ (l2 < 1520 → (-2147483648 ≤ l2 + 80 ∧ l2 + 80 ≤ 2147483647) ∧ (0 ≤ l2 + 80 ∧ l2 + 80 < 1600) ∧ (0 ≤ l2 ∧ l2 < 1600) ∧ (-2147483648 ≤ l2 + 1 ∧ l2 + 1 ≤ 2147483647) ∧ wm iv L h0 d 100 53 [lr 307, li l1, li (l2 + 1)] [] (ua (ua s 27 l2 (s.2 27 (l2 + 80))) 28 l2 (s.2 28 (l2 + 80))) (qv F)))) : wm iv L h0 d 100 53 [lr 307, li l1, li l2] [] s (qv F) := by
  refine w_iload_n rfl rfl ?_
  refine w_sipush (n := 1520) rfl rfl rfl ?_
  refine w_icmp_ge rfl (fun h => ?_) (fun h => ?_)
  · replace H := H.1 h
    refine w_iconst (n := 0) rfl rfl ?_
    refine w_istore_n rfl rfl ?_
    exact wp_ls (sl_s (sl_s (sl_s (sl_0)))) H
  · replace H := H.2 h
    refine w_aload_n rfl rfl ?_
    refine m_geta (t := 0) (k := 1600) rfl rfl ?_
    refine w_iload_n rfl rfl ?_
    refine w_aload_n rfl rfl ?_
    refine m_geta (t := 0) (k := 1600) rfl rfl ?_
    refine w_iload_n rfl rfl ?_
    refine w_bipush (n := 80) rfl rfl rfl ?_
    obtain ⟨g1, H⟩ := H
    refine w_iadd rfl g1 ?_
    obtain ⟨g2, H⟩ := H
    refine m_ald rfl (f := 27) (k := 1600) rfl g2 ?_
    obtain ⟨g3, H⟩ := H
    refine m_ast rfl (f := 27) (k := 1600) rfl g3 ?_
    refine w_aload_n rfl rfl ?_
    refine m_geta (t := 0) (k := 1600) rfl rfl ?_
    refine w_iload_n rfl rfl ?_
    refine w_aload_n rfl rfl ?_
    refine m_geta (t := 0) (k := 1600) rfl rfl ?_
    refine w_iload_n rfl rfl ?_
    refine w_bipush (n := 80) rfl rfl rfl ?_
    refine w_iadd rfl g1 ?_
    refine m_ald rfl (f := 28) (k := 1600) rfl g2 ?_
    show wm iv L h0 d 100 89 [lr 307, li l1, li l2] [vi (s.2 28 (l2 + 80)), vi l2, vr 327] (ua s 27 l2 (s.2 27 (l2 + 80))) (qv F)
    refine m_ast rfl (f := 28) (k := 1600) rfl g3 ?_
    obtain ⟨g4, H⟩ := H
    refine w_iinc rfl rfl rfl g4 ?_
    refine w_goto rfl ?_
    exact wp_ls (sl_s (sl_s (sl_s (sl_0)))) H

/-- HoleDeskModel.endAct(Z)V at 98 -/
theorem B100_98 {iv : List (Int × Int)} {L : Nat} {h0 : MH} {d : Nat} {s : SM} {l1 : Int} {l2 : Int} {F : SM → Prop} (H : ((4560 ≤ l2 → (-2147483648 ≤ (s.1 24) - 1 ∧ (s.1 24) - 1 ≤ 2147483647) ∧ (0 ≤ (s.1 24) - 1 ∧ (s.1 24) - 1 < 20) ∧ wm iv L h0 d 100 165 [lr 307, li l1, li 0] [] (ua (ua (us s 24 ((s.1 24) - 1)) 25 ((s.1 24) - 1) (s.1 30)) 26 ((s.1 24) - 1) (s.1 31)) (qv F)) ∧ (l2 < 4560 → (-2147483648 ≤ l2 + 240 ∧ l2 + 240 ≤ 2147483647) ∧ (0 ≤ l2 + 240 ∧ l2 + 240 < 4800) ∧ (0 ≤ l2 ∧ l2 < 4800) ∧ (-2147483648 ≤ l2 + 1 ∧ l2 + 1 ≤ 2147483647) ∧ wm iv L h0 d 100 98 [lr 307, li l1, li (l2 + 1)] [] (ua s 29 l2 (s.2 29 (l2 + 240))) (qv F)))) : wm iv L h0 d 100 98 [lr 307, li l1, li l2] [] s (qv F) := by
  refine w_iload_n rfl rfl ?_
  refine w_sipush (n := 4560) rfl rfl rfl ?_
  refine w_icmp_ge rfl (fun h => ?_) (fun h => ?_)
  · replace H := H.1 h
    refine w_aload_n rfl rfl ?_
    refine w_dup rfl rfl ?_
    refine m_get rfl rfl ?_
    refine w_iconst (n := 1) rfl rfl ?_
    obtain ⟨g1, H⟩ := H
    refine w_isub rfl g1 ?_
    refine m_put rfl rfl rfl ?_
    refine w_aload_n rfl rfl ?_
    refine m_geta (t := 0) (k := 20) rfl rfl ?_
    refine w_aload_n rfl rfl ?_
    refine m_get rfl rfl ?_
    show wm iv L h0 d 100 145 [lr 307, li l1, li l2] [vi ((s.1 24) - 1), vr 324] (us s 24 ((s.1 24) - 1)) (qv F)
    refine w_aload_n rfl rfl ?_
    refine m_get rfl rfl ?_
    show wm iv L h0 d 100 149 [lr 307, li l1, li l2] [vi (s.1 30), vi ((s.1 24) - 1), vr 324] (us s 24 ((s.1 24) - 1)) (qv F)
    obtain ⟨g2, H⟩ := H
    refine m_ast rfl (f := 25) (k := 20) rfl g2 ?_
    refine w_aload_n rfl rfl ?_
    refine m_geta (t := 0) (k := 20) rfl rfl ?_
    refine w_aload_n rfl rfl ?_
    refine m_get rfl rfl ?_
    show wm iv L h0 d 100 158 [lr 307, li l1, li l2] [vi ((s.1 24) - 1), vr 325] (ua (us s 24 ((s.1 24) - 1)) 25 ((s.1 24) - 1) (s.1 30)) (qv F)
    refine w_aload_n rfl rfl ?_
    refine m_get rfl rfl ?_
    show wm iv L h0 d 100 162 [lr 307, li l1, li l2] [vi (s.1 31), vi ((s.1 24) - 1), vr 325] (ua (us s 24 ((s.1 24) - 1)) 25 ((s.1 24) - 1) (s.1 30)) (qv F)
    refine m_ast rfl (f := 26) (k := 20) rfl g2 ?_
    refine w_iconst (n := 0) rfl rfl ?_
    refine w_istore_n rfl rfl ?_
    exact wp_ls (sl_s (sl_s (sl_s (sl_0)))) H
  · replace H := H.2 h
    refine w_aload_n rfl rfl ?_
    refine m_geta (t := 0) (k := 4800) rfl rfl ?_
    refine w_iload_n rfl rfl ?_
    refine w_aload_n rfl rfl ?_
    refine m_geta (t := 0) (k := 4800) rfl rfl ?_
    refine w_iload_n rfl rfl ?_
    refine w_sipush (n := 240) rfl rfl rfl ?_
    obtain ⟨g3, H⟩ := H
    refine w_iadd rfl g3 ?_
    obtain ⟨g4, H⟩ := H
    refine m_ald rfl (f := 29) (k := 4800) rfl g4 ?_
    obtain ⟨g5, H⟩ := H
    refine m_ast rfl (f := 29) (k := 4800) rfl g5 ?_
    obtain ⟨g6, H⟩ := H
    refine w_iinc rfl rfl rfl g6 ?_
    refine w_goto rfl ?_
    exact wp_ls (sl_s (sl_s (sl_s (sl_0)))) H

/-- HoleDeskModel.endAct(Z)V at 165 -/
theorem B100_165 {iv : List (Int × Int)} {L : Nat} {h0 : MH} {d : Nat} {s : SM} {l1 : Int} {l2 : Int} {F : SM → Prop} (H : ((80 ≤ l2 → wm iv L h0 d 100 219 [lr 307, li l1, li 0] [] s (qv F)) ∧ (l2 < 80 → (-2147483648 ≤ 80 * (s.1 24) ∧ 80 * (s.1 24) ≤ 2147483647) ∧ (-2147483648 ≤ (80 * (s.1 24)) + l2 ∧ (80 * (s.1 24)) + l2 ≤ 2147483647) ∧ (0 ≤ l2 ∧ l2 < 80) ∧ (0 ≤ (80 * (s.1 24)) + l2 ∧ (80 * (s.1 24)) + l2 < 1600) ∧ (-2147483648 ≤ l2 + 1 ∧ l2 + 1 ≤ 2147483647) ∧ wm iv L h0 d 100 165 [lr 307, li l1, li (l2 + 1)] [] (ua (ua s 27 ((80 * (s.1 24)) + l2) (s.2 32 l2)) 28 ((80 * (s.1 24)) + l2) (s.2 33 l2)) (qv F)))) : wm iv L h0 d 100 165 [lr 307, li l1, li l2] [] s (qv F) := by
  refine w_iload_n rfl rfl ?_
  refine w_bipush (n := 80) rfl rfl rfl ?_
  refine w_icmp_ge rfl (fun h => ?_) (fun h => ?_)
  · replace H := H.1 h
    refine w_iconst (n := 0) rfl rfl ?_
    refine w_istore_n rfl rfl ?_
    exact wp_ls (sl_s (sl_s (sl_s (sl_0)))) H
  · replace H := H.2 h
    refine w_aload_n rfl rfl ?_
    refine m_geta (t := 0) (k := 1600) rfl rfl ?_
    refine w_bipush (n := 80) rfl rfl rfl ?_
    refine w_aload_n rfl rfl ?_
    refine m_get rfl rfl ?_
    obtain ⟨g1, H⟩ := H
    refine w_imul rfl g1 ?_
    refine w_iload_n rfl rfl ?_
    obtain ⟨g2, H⟩ := H
    refine w_iadd rfl g2 ?_
    refine w_aload_n rfl rfl ?_
    refine m_geta (t := 0) (k := 80) rfl rfl ?_
    refine w_iload_n rfl rfl ?_
    obtain ⟨g3, H⟩ := H
    refine m_ald rfl (f := 32) (k := 80) rfl g3 ?_
    obtain ⟨g4, H⟩ := H
    refine m_ast rfl (f := 27) (k := 1600) rfl g4 ?_
    refine w_aload_n rfl rfl ?_
    refine m_geta (t := 0) (k := 1600) rfl rfl ?_
    refine w_bipush (n := 80) rfl rfl rfl ?_
    refine w_aload_n rfl rfl ?_
    refine m_get rfl rfl ?_
    show wm iv L h0 d 100 201 [lr 307, li l1, li l2] [vi (s.1 24), vi 80, vr 327] (ua s 27 ((80 * (s.1 24)) + l2) (s.2 32 l2)) (qv F)
    refine w_imul rfl g1 ?_
    refine w_iload_n rfl rfl ?_
    refine w_iadd rfl g2 ?_
    refine w_aload_n rfl rfl ?_
    refine m_geta (t := 0) (k := 80) rfl rfl ?_
    refine w_iload_n rfl rfl ?_
    refine m_ald rfl (f := 33) (k := 80) rfl g3 ?_
    show wm iv L h0 d 100 210 [lr 307, li l1, li l2] [vi (s.2 33 l2), vi ((80 * (s.1 24)) + l2), vr 327] (ua s 27 ((80 * (s.1 24)) + l2) (s.2 32 l2)) (qv F)
    refine m_ast rfl (f := 28) (k := 1600) rfl g4 ?_
    obtain ⟨g5, H⟩ := H
    refine w_iinc rfl rfl rfl g5 ?_
    refine w_goto rfl ?_
    exact wp_ls (sl_s (sl_s (sl_s (sl_0)))) H

/-- HoleDeskModel.endAct(Z)V at 219 -/
theorem B100_219 {iv : List (Int × Int)} {L : Nat} {h0 : MH} {d : Nat} {s : SM} {l1 : Int} {l2 : Int} {F : SM → Prop} (H : ((240 ≤ l2 → (-2147483648 ≤ (s.1 24) + 1 ∧ (s.1 24) + 1 ≤ 2147483647) ∧ ((s.1 35 ≠ 0 → F (us (us s 24 ((s.1 24) + 1)) 35 1)) ∧ (s.1 35 = 0 → ((l1 ≠ 0 → F (us (us s 24 ((s.1 24) + 1)) 35 0)) ∧ (l1 = 0 → F (us (us s 24 ((s.1 24) + 1)) 35 1)))))) ∧ (l2 < 240 → (-2147483648 ≤ 240 * (s.1 24) ∧ 240 * (s.1 24) ≤ 2147483647) ∧ (-2147483648 ≤ (240 * (s.1 24)) + l2 ∧ (240 * (s.1 24)) + l2 ≤ 2147483647) ∧ (0 ≤ l2 ∧ l2 < 240) ∧ (0 ≤ (240 * (s.1 24)) + l2 ∧ (240 * (s.1 24)) + l2 < 4800) ∧ (-2147483648 ≤ l2 + 1 ∧ l2 + 1 ≤ 2147483647) ∧ wm iv L h0 d 100 219 [lr 307, li l1, li (l2 + 1)] [] (ua s 29 ((240 * (s.1 24)) + l2) (s.2 34 l2)) (qv F)))) : wm iv L h0 d 100 219 [lr 307, li l1, li l2] [] s (qv F) := by
  refine w_iload_n rfl rfl ?_
  refine w_sipush (n := 240) rfl rfl rfl ?_
  refine w_icmp_ge rfl (fun h => ?_) (fun h => ?_)
  · replace H := H.1 h
    refine w_aload_n rfl rfl ?_
    refine w_dup rfl rfl ?_
    refine m_get rfl rfl ?_
    refine w_iconst (n := 1) rfl rfl ?_
    obtain ⟨g1, H⟩ := H
    refine w_iadd rfl g1 ?_
    refine m_put rfl rfl rfl ?_
    refine w_aload_n rfl rfl ?_
    refine w_aload_n rfl rfl ?_
    refine m_get rfl rfl ?_
    show wm iv L h0 d 100 268 [lr 307, li l1, li l2] [vi (s.1 35), vr 307] (us s 24 ((s.1 24) + 1)) (qv F)
    refine w_if_ne rfl (fun h => ?_) (fun h => ?_)
    · replace H := H.1 h
      refine w_iconst (n := 1) rfl rfl ?_
      refine w_goto rfl ?_
      refine m_putz rfl rfl rfl (by decide) ?_
      exact w_ret rfl rfl ⟨rfl, H⟩
    · replace H := H.2 h
      refine w_iload_n rfl rfl ?_
      refine w_if_ne rfl (fun h => ?_) (fun h => ?_)
      · replace H := H.1 h
        refine w_iconst (n := 0) rfl rfl ?_
        refine m_putz rfl rfl rfl (by decide) ?_
        exact w_ret rfl rfl ⟨rfl, H⟩
      · replace H := H.2 h
        refine w_iconst (n := 1) rfl rfl ?_
        refine w_goto rfl ?_
        refine m_putz rfl rfl rfl (by decide) ?_
        exact w_ret rfl rfl ⟨rfl, H⟩
  · replace H := H.2 h
    refine w_aload_n rfl rfl ?_
    refine m_geta (t := 0) (k := 4800) rfl rfl ?_
    refine w_sipush (n := 240) rfl rfl rfl ?_
    refine w_aload_n rfl rfl ?_
    refine m_get rfl rfl ?_
    obtain ⟨g2, H⟩ := H
    refine w_imul rfl g2 ?_
    refine w_iload_n rfl rfl ?_
    obtain ⟨g3, H⟩ := H
    refine w_iadd rfl g3 ?_
    refine w_aload_n rfl rfl ?_
    refine m_geta (t := 0) (k := 240) rfl rfl ?_
    refine w_iload_n rfl rfl ?_
    obtain ⟨g4, H⟩ := H
    refine m_ald rfl (f := 34) (k := 240) rfl g4 ?_
    obtain ⟨g5, H⟩ := H
    refine m_ast rfl (f := 29) (k := 4800) rfl g5 ?_
    obtain ⟨g6, H⟩ := H
    refine w_iinc rfl rfl rfl g6 ?_
    refine w_goto rfl ?_
    exact wp_ls (sl_s (sl_s (sl_s (sl_0)))) H

/-- HoleDeskModel.undo()I -/
theorem B101 {iv : List (Int × Int)} {L : Nat} {h0 : MH} {d : Nat} {s : SM} {F : Int → SM → Prop} (H : ((s.1 24 ≠ 0 → (-2147483648 ≤ (s.1 24) - 1 ∧ (s.1 24) - 1 ≤ 2147483647) ∧ wm iv L h0 (d + 1) 101 22 [lr 307, li 0] [] (us s 24 ((s.1 24) - 1)) (qi F)) ∧ (s.1 24 = 0 → F (-4) s))) : cm iv L h0 (d + 1) 101 [vr 307] s (qi F) := by
  show wm iv L h0 (d + 1) 101 0 [lr 307] [] s (qi F)
  refine w_aload_n rfl rfl ?_
  refine m_get rfl rfl ?_
  refine w_if_ne rfl (fun h => ?_) (fun h => ?_)
  · replace H := H.1 h
    refine w_aload_n rfl rfl ?_
    refine w_dup rfl rfl ?_
    refine m_get rfl rfl ?_
    refine w_iconst (n := 1) rfl rfl ?_
    obtain ⟨g1, H⟩ := H
    refine w_isub rfl g1 ?_
    refine m_put rfl rfl rfl ?_
    refine w_iconst (n := 0) rfl rfl ?_
    refine w_istore_n rfl rfl ?_
    exact wp_ls (sl_s (sl_s (sl_0))) H
  · replace H := H.2 h
    refine w_bipush (n := (-4)) rfl rfl rfl ?_
    exact w_iret rfl rfl ⟨_, rfl, H⟩

/-- HoleDeskModel.undo()I at 22 -/
theorem B101_22 {iv : List (Int × Int)} {L : Nat} {h0 : MH} {d : Nat} {s : SM} {l1 : Int} {F : Int → SM → Prop} (H : (0 ≤ s.1 24 ∧ s.1 24 < 20) ∧ ((s.2 25 (s.1 24) ≤ l1 → (-2147483648 ≤ 80 * (s.1 24) ∧ 80 * (s.1 24) ≤ 2147483647) ∧ (0 ≤ 80 * (s.1 24) ∧ 80 * (s.1 24) < 1600) ∧ (0 ≤ s.2 27 (80 * (s.1 24)) ∧ s.2 27 (80 * (s.1 24)) < 3004) ∧ F (s.1 24) (us (us (ua (ua (us s 15 (s.2 27 (80 * (s.1 24)))) 12 (s.2 27 (80 * (s.1 24))) (-9)) 13 (s.2 27 (80 * (s.1 24))) (-9)) 16 (s.2 26 (s.1 24))) 35 1)) ∧ (l1 < s.2 25 (s.1 24) → (-2147483648 ≤ 80 * (s.1 24) ∧ 80 * (s.1 24) ≤ 2147483647) ∧ (-2147483648 ≤ (80 * (s.1 24)) + l1 ∧ (80 * (s.1 24)) + l1 ≤ 2147483647) ∧ (0 ≤ (80 * (s.1 24)) + l1 ∧ (80 * (s.1 24)) + l1 < 1600) ∧ (0 ≤ s.2 27 ((80 * (s.1 24)) + l1) ∧ s.2 27 ((80 * (s.1 24)) + l1) < 3004) ∧ wm iv L h0 (d + 1) 101 72 [lr 307, li l1, li (s.2 27 ((80 * (s.1 24)) + l1)), li 0] [] (ua s 10 (s.2 27 ((80 * (s.1 24)) + l1)) (s.2 28 ((80 * (s.1 24)) + l1))) (qi F)))) : wm iv L h0 (d + 1) 101 22 [lr 307, li l1] [] s (qi F) := by
  refine w_iload_n rfl rfl ?_
  refine w_aload_n rfl rfl ?_
  refine m_geta (t := 0) (k := 20) rfl rfl ?_
  refine w_aload_n rfl rfl ?_
  refine m_get rfl rfl ?_
  obtain ⟨g1, H⟩ := H
  refine m_ald rfl (f := 25) (k := 20) rfl g1 ?_
  refine w_icmp_ge rfl (fun h => ?_) (fun h => ?_)
  · replace H := H.1 h
    refine w_aload_n rfl rfl ?_
    refine w_aload_n rfl rfl ?_
    refine m_geta (t := 0) (k := 1600) rfl rfl ?_
    refine w_bipush (n := 80) rfl rfl rfl ?_
    refine w_aload_n rfl rfl ?_
    refine m_get rfl rfl ?_
    obtain ⟨g2, H⟩ := H
    refine w_imul rfl g2 ?_
    obtain ⟨g3, H⟩ := H
    refine m_ald rfl (f := 27) (k := 1600) rfl g3 ?_
    refine m_put rfl rfl rfl ?_
    refine w_aload_n rfl rfl ?_
    refine m_geta (t := 0) (k := 3004) rfl rfl ?_
    refine w_aload_n rfl rfl ?_
    refine m_get rfl rfl ?_
    show wm iv L h0 (d + 1) 101 146 [lr 307, li l1] [vi (s.2 27 (80 * (s.1 24))), vr 316] (us s 15 (s.2 27 (80 * (s.1 24)))) (qi F)
    refine w_bipush (n := (-9)) rfl rfl rfl ?_
    obtain ⟨g4, H⟩ := H
    refine m_ast rfl (f := 12) (k := 3004) rfl g4 ?_
    refine w_aload_n rfl rfl ?_
    refine m_geta (t := 0) (k := 3004) rfl rfl ?_
    refine w_aload_n rfl rfl ?_
    refine m_get rfl rfl ?_
    show wm iv L h0 (d + 1) 101 157 [lr 307, li l1] [vi (s.2 27 (80 * (s.1 24))), vr 317] (ua (us s 15 (s.2 27 (80 * (s.1 24)))) 12 (s.2 27 (80 * (s.1 24))) (-9)) (qi F)
    refine w_bipush (n := (-9)) rfl rfl rfl ?_
    refine m_ast rfl (f := 13) (k := 3004) rfl g4 ?_
    refine w_aload_n rfl rfl ?_
    refine w_aload_n rfl rfl ?_
    refine m_geta (t := 0) (k := 20) rfl rfl ?_
    refine w_aload_n rfl rfl ?_
    refine m_get rfl rfl ?_
    show wm iv L h0 (d + 1) 101 169 [lr 307, li l1] [vi (s.1 24), vr 325, vr 307] (ua (ua (us s 15 (s.2 27 (80 * (s.1 24)))) 12 (s.2 27 (80 * (s.1 24))) (-9)) 13 (s.2 27 (80 * (s.1 24))) (-9)) (qi F)
    refine m_ald rfl (f := 26) (k := 20) rfl g1 ?_
    show wm iv L h0 (d + 1) 101 170 [lr 307, li l1] [vi (s.2 26 (s.1 24)), vr 307] (ua (ua (us s 15 (s.2 27 (80 * (s.1 24)))) 12 (s.2 27 (80 * (s.1 24))) (-9)) 13 (s.2 27 (80 * (s.1 24))) (-9)) (qi F)
    refine m_put rfl rfl rfl ?_
    refine w_aload_n rfl rfl ?_
    refine w_iconst (n := 1) rfl rfl ?_
    refine m_putz rfl rfl rfl (by decide) ?_
    refine w_aload_n rfl rfl ?_
    refine m_get rfl rfl ?_
    show wm iv L h0 (d + 1) 101 182 [lr 307, li l1] [vi (s.1 24)] (us (us (ua (ua (us s 15 (s.2 27 (80 * (s.1 24)))) 12 (s.2 27 (80 * (s.1 24))) (-9)) 13 (s.2 27 (80 * (s.1 24))) (-9)) 16 (s.2 26 (s.1 24))) 35 1) (qi F)
    exact w_iret rfl rfl ⟨_, rfl, H⟩
  · replace H := H.2 h
    refine w_aload_n rfl rfl ?_
    refine m_geta (t := 0) (k := 1600) rfl rfl ?_
    refine w_bipush (n := 80) rfl rfl rfl ?_
    refine w_aload_n rfl rfl ?_
    refine m_get rfl rfl ?_
    obtain ⟨g5, H⟩ := H
    refine w_imul rfl g5 ?_
    refine w_iload_n rfl rfl ?_
    obtain ⟨g6, H⟩ := H
    refine w_iadd rfl g6 ?_
    obtain ⟨g7, H⟩ := H
    refine m_ald rfl (f := 27) (k := 1600) rfl g7 ?_
    refine w_istore_n rfl rfl ?_
    refine w_aload_n rfl rfl ?_
    refine m_geta (t := 0) (k := 3004) rfl rfl ?_
    refine w_iload_n rfl rfl ?_
    refine w_aload_n rfl rfl ?_
    refine m_geta (t := 0) (k := 1600) rfl rfl ?_
    refine w_bipush (n := 80) rfl rfl rfl ?_
    refine w_aload_n rfl rfl ?_
    refine m_get rfl rfl ?_
    refine w_imul rfl g5 ?_
    refine w_iload_n rfl rfl ?_
    refine w_iadd rfl g6 ?_
    refine m_ald rfl (f := 28) (k := 1600) rfl g7 ?_
    obtain ⟨g8, H⟩ := H
    refine m_ast rfl (f := 10) (k := 3004) rfl g8 ?_
    refine w_iconst (n := 0) rfl rfl ?_
    refine w_istore_n rfl rfl ?_
    exact wp_ls (sl_s (sl_s (sl_s (sl_s (sl_0))))) H

/-- HoleDeskModel.undo()I at 72 -/
theorem B101_72 {iv : List (Int × Int)} {L : Nat} {h0 : MH} {d : Nat} {s : SM} {l1 : Int} {l2 : Int} {l3 : Int} {F : Int → SM → Prop} (H : (0 ≤ l2 ∧ l2 < 3004) ∧ (0 ≤ s.2 9 l2 ∧ s.2 9 l2 < 16) ∧ ((pO (s.2 9 l2) ≤ l3 → (-2147483648 ≤ l1 + 1 ∧ l1 + 1 ≤ 2147483647) ∧ wm iv L h0 (d + 1) 101 22 [lr 307, li (l1 + 1)] [] s (qi F)) ∧ (l3 < pO (s.2 9 l2) → (-2147483648 ≤ 240 * (s.1 24) ∧ 240 * (s.1 24) ≤ 2147483647) ∧ (-2147483648 ≤ 3 * l1 ∧ 3 * l1 ≤ 2147483647) ∧ (-2147483648 ≤ (240 * (s.1 24)) + (3 * l1) ∧ (240 * (s.1 24)) + (3 * l1) ≤ 2147483647) ∧ (-2147483648 ≤ ((240 * (s.1 24)) + (3 * l1)) + l3 ∧ ((240 * (s.1 24)) + (3 * l1)) + l3 ≤ 2147483647) ∧ (0 ≤ ((240 * (s.1 24)) + (3 * l1)) + l3 ∧ ((240 * (s.1 24)) + (3 * l1)) + l3 < 4800) ∧ cm iv L h0 d 76 [vr 307, vi l2, vi l3, vi (s.2 29 (((240 * (s.1 24)) + (3 * l1)) + l3))] s (qv fun s9 => (-2147483648 ≤ l3 + 1 ∧ l3 + 1 ≤ 2147483647) ∧ wm iv L h0 (d + 1) 101 72 [lr 307, li l1, li l2, li (l3 + 1)] [] s9 (qi F))))) : wm iv L h0 (d + 1) 101 72 [lr 307, li l1, li l2, li l3] [] s (qi F) := by
  refine w_iload_n rfl rfl ?_
  refine w_aload_n rfl rfl ?_
  refine m_geta (t := 0) (k := 3004) rfl rfl ?_
  refine w_iload_n rfl rfl ?_
  obtain ⟨g1, H⟩ := H
  refine m_ald rfl (f := 9) (k := 3004) rfl g1 ?_
  obtain ⟨g2, H⟩ := H
  refine w_static (as := [vi (s.2 9 l2)]) (r := [vi l3]) rfl rfl rfl rfl rfl (m_parts g2 ?_)
  show wm iv L h0 (d + 1) 101 82 [lr 307, li l1, li l2, li l3] [vi (pO (s.2 9 l2)), vi l3] s (qi F)
  refine w_icmp_ge rfl (fun h => ?_) (fun h => ?_)
  · replace H := H.1 h
    obtain ⟨g3, H⟩ := H
    refine w_iinc rfl rfl rfl g3 ?_
    refine w_goto rfl ?_
    exact wp_ls (sl_s (sl_s (sl_0))) H
  · replace H := H.2 h
    refine w_aload_n rfl rfl ?_
    refine w_iload_n rfl rfl ?_
    refine w_iload_n rfl rfl ?_
    refine w_aload_n rfl rfl ?_
    refine m_geta (t := 0) (k := 4800) rfl rfl ?_
    refine w_sipush (n := 240) rfl rfl rfl ?_
    refine w_aload_n rfl rfl ?_
    refine m_get rfl rfl ?_
    obtain ⟨g4, H⟩ := H
    refine w_imul rfl g4 ?_
    refine w_iconst (n := 3) rfl rfl ?_
    refine w_iload_n rfl rfl ?_
    obtain ⟨g5, H⟩ := H
    refine w_imul rfl g5 ?_
    obtain ⟨g6, H⟩ := H
    refine w_iadd rfl g6 ?_
    refine w_iload_n rfl rfl ?_
    obtain ⟨g7, H⟩ := H
    refine w_iadd rfl g7 ?_
    obtain ⟨g8, H⟩ := H
    refine m_ald rfl (f := 29) (k := 4800) rfl g8 ?_
    refine m_call (as := [vi l2, vi l3, vi (s.2 29 (((240 * (s.1 24)) + (3 * l1)) + l3))]) (r := []) rfl rfl rfl rfl rfl rfl (wc_mono H (Nat.le_refl _) ?_)
    rintro _ s9 ⟨rfl, H⟩
    show wm iv L h0 (d + 1) 101 110 [lr 307, li l1, li l2, li l3] [] s9 (qi F)
    obtain ⟨g10, H⟩ := H
    refine w_iinc rfl rfl rfl g10 ?_
    refine w_goto rfl ?_
    exact wp_ls (sl_s (sl_s (sl_s (sl_s (sl_0))))) H

/-- HoleDeskModel.goneTo(I)I -/
theorem B102 {iv : List (Int × Int)} {L : Nat} {h0 : MH} {d : Nat} {s : SM} {a1 : Int} {F : Int → SM → Prop} (H : ((a1 ≠ (-9) → F a1 (us s 16 a1)) ∧ (a1 = (-9) → F (-4) s))) : cm iv L h0 d 102 [vr 307, vi a1] s (qi F) := by
  show wm iv L h0 d 102 0 [lr 307, li a1] [] s (qi F)
  refine w_iload_n rfl rfl ?_
  refine w_bipush (n := (-9)) rfl rfl rfl ?_
  refine w_icmp_ne rfl (fun h => ?_) (fun h => ?_)
  · replace H := H.1 h
    refine w_aload_n rfl rfl ?_
    refine w_iload_n rfl rfl ?_
    refine m_put rfl rfl rfl ?_
    refine w_iload_n rfl rfl ?_
    exact w_iret rfl rfl ⟨_, rfl, H⟩
  · replace H := H.2 h
    refine w_bipush (n := (-4)) rfl rfl rfl ?_
    exact w_iret rfl rfl ⟨_, rfl, H⟩

/-- HoleDeskModel.besides(I)I -/
theorem B103 {iv : List (Int × Int)} {L : Nat} {h0 : MH} {d : Nat} {s : SM} {a1 : Int} {F : Int → SM → Prop} (H : (0 ≤ s.1 16 ∧ s.1 16 < 3004) ∧ ((s.2 12 (s.1 16) ≠ (-9) → (-2147483648 ≤ (s.2 13 (s.1 16)) + a1 ∧ (s.2 13 (s.1 16)) + a1 ≤ 2147483647) ∧ ((s.2 12 (s.1 16) = (-9) → F (-9) s) ∧ (s.2 12 (s.1 16) ≠ (-9) → (0 ≤ s.2 12 (s.1 16) ∧ s.2 12 (s.1 16) < 3004) ∧ (0 ≤ s.2 9 (s.2 12 (s.1 16)) ∧ s.2 9 (s.2 12 (s.1 16)) < 16) ∧ (-2147483648 ≤ (pO (s.2 9 (s.2 12 (s.1 16)))) - 1 ∧ (pO (s.2 9 (s.2 12 (s.1 16)))) - 1 ≤ 2147483647) ∧ ((0 ≤ (s.2 13 (s.1 16)) + a1 ∧ (s.2 13 (s.1 16)) + a1 ≤ (pO (s.2 9 (s.2 12 (s.1 16)))) - 1 → (-2147483648 ≤ 3 * (s.2 12 (s.1 16)) ∧ 3 * (s.2 12 (s.1 16)) ≤ 2147483647) ∧ (-2147483648 ≤ (3 * (s.2 12 (s.1 16))) + ((s.2 13 (s.1 16)) + a1) ∧ (3 * (s.2 12 (s.1 16))) + ((s.2 13 (s.1 16)) + a1) ≤ 2147483647) ∧ (0 ≤ (3 * (s.2 12 (s.1 16))) + ((s.2 13 (s.1 16)) + a1) ∧ (3 * (s.2 12 (s.1 16))) + ((s.2 13 (s.1 16)) + a1) < 9012) ∧ F (s.2 14 ((3 * (s.2 12 (s.1 16))) + ((s.2 13 (s.1 16)) + a1))) s) ∧ ((s.2 13 (s.1 16)) + a1 < 0 ∨ (pO (s.2 9 (s.2 12 (s.1 16)))) - 1 < (s.2 13 (s.1 16)) + a1 → F (-9) s))))) ∧ (s.2 12 (s.1 16) = (-9) → ((s.2 12 (s.1 16) = (-9) → F (-9) s) ∧ (s.2 12 (s.1 16) ≠ (-9) → (0 ≤ s.2 12 (s.1 16) ∧ s.2 12 (s.1 16) < 3004) ∧ (0 ≤ s.2 9 (s.2 12 (s.1 16)) ∧ s.2 9 (s.2 12 (s.1 16)) < 16) ∧ (-2147483648 ≤ (pO (s.2 9 (s.2 12 (s.1 16)))) - 1 ∧ (pO (s.2 9 (s.2 12 (s.1 16)))) - 1 ≤ 2147483647) ∧ ((0 ≤ (-9) ∧ (-9) ≤ (pO (s.2 9 (s.2 12 (s.1 16)))) - 1 → (-2147483648 ≤ 3 * (s.2 12 (s.1 16)) ∧ 3 * (s.2 12 (s.1 16)) ≤ 2147483647) ∧ (-2147483648 ≤ (3 * (s.2 12 (s.1 16))) - 9 ∧ (3 * (s.2 12 (s.1 16))) - 9 ≤ 2147483647) ∧ (0 ≤ (3 * (s.2 12 (s.1 16))) - 9 ∧ (3 * (s.2 12 (s.1 16))) - 9 < 9012) ∧ F (s.2 14 ((3 * (s.2 12 (s.1 16))) - 9)) s) ∧ ((-9) < 0 ∨ (pO (s.2 9 (s.2 12 (s.1 16)))) - 1 < (-9) → F (-9) s))))))) : cm iv L h0 (d + 1) 103 [vr 307, vi a1] s (qi F) := by
  show wm iv L h0 (d + 1) 103 0 [lr 307, li a1] [] s (qi F)
  refine w_aload_n rfl rfl ?_
  refine m_geta (t := 0) (k := 3004) rfl rfl ?_
  refine w_aload_n rfl rfl ?_
  refine m_get rfl rfl ?_
  obtain ⟨g1, H⟩ := H
  refine m_ald rfl (f := 12) (k := 3004) rfl g1 ?_
  refine w_istore_n rfl rfl ?_
  refine w_iload_n rfl rfl ?_
  refine w_bipush (n := (-9)) rfl rfl rfl ?_
  refine w_icmp_ne rfl (fun h => ?_) (fun h => ?_)
  · replace H := H.1 h
    refine w_aload_n rfl rfl ?_
    refine m_geta (t := 0) (k := 3004) rfl rfl ?_
    refine w_aload_n rfl rfl ?_
    refine m_get rfl rfl ?_
    refine m_ald rfl (f := 13) (k := 3004) rfl g1 ?_
    refine w_iload_n rfl rfl ?_
    obtain ⟨g2, H⟩ := H
    refine w_iadd rfl g2 ?_
    refine w_istore_n rfl rfl ?_
    refine w_iload_n rfl rfl ?_
    refine w_bipush (n := (-9)) rfl rfl rfl ?_
    refine w_icmp_eq rfl (fun h => ?_) (fun h => ?_)
    · replace H := H.1 h
      refine w_bipush (n := (-9)) rfl rfl rfl ?_
      exact w_iret rfl rfl ⟨_, rfl, H⟩
    · replace H := H.2 h
      refine w_iload_n rfl rfl ?_
      refine w_iconst (n := 0) rfl rfl ?_
      refine w_aload_n rfl rfl ?_
      refine m_geta (t := 0) (k := 3004) rfl rfl ?_
      refine w_iload_n rfl rfl ?_
      obtain ⟨g3, H⟩ := H
      refine m_ald rfl (f := 9) (k := 3004) rfl g3 ?_
      obtain ⟨g4, H⟩ := H
      refine w_static (as := [vi (s.2 9 (s.2 12 (s.1 16)))]) (r := [vi 0, vi ((s.2 13 (s.1 16)) + a1)]) rfl rfl rfl rfl rfl (m_parts g4 ?_)
      show wm iv L h0 (d + 1) 103 50 [lr 307, li a1, li (s.2 12 (s.1 16)), li ((s.2 13 (s.1 16)) + a1)] [vi (pO (s.2 9 (s.2 12 (s.1 16)))), vi 0, vi ((s.2 13 (s.1 16)) + a1)] s (qi F)
      refine w_iconst (n := 1) rfl rfl ?_
      obtain ⟨g5, H⟩ := H
      refine w_isub rfl g5 ?_
      refine w_static (as := [vi ((s.2 13 (s.1 16)) + a1), vi 0, vi ((pO (s.2 9 (s.2 12 (s.1 16)))) - 1)]) (r := []) rfl rfl rfl rfl rfl (m_in (fun h => ?_) (fun h => ?_))
      · show wm iv L h0 (d + 1) 103 55 [lr 307, li a1, li (s.2 12 (s.1 16)), li ((s.2 13 (s.1 16)) + a1)] [vi 1] s (qi F)
        replace H := H.1 h
        refine w_if_eq rfl (fun h => absurd h (by decide)) (fun _ => ?_)
        refine w_aload_n rfl rfl ?_
        refine m_geta (t := 0) (k := 9012) rfl rfl ?_
        refine w_iconst (n := 3) rfl rfl ?_
        refine w_iload_n rfl rfl ?_
        obtain ⟨g6, H⟩ := H
        refine w_imul rfl g6 ?_
        refine w_iload_n rfl rfl ?_
        obtain ⟨g7, H⟩ := H
        refine w_iadd rfl g7 ?_
        obtain ⟨g8, H⟩ := H
        refine m_ald rfl (f := 14) (k := 9012) rfl g8 ?_
        refine w_goto rfl ?_
        exact w_iret rfl rfl ⟨_, rfl, H⟩
      · show wm iv L h0 (d + 1) 103 55 [lr 307, li a1, li (s.2 12 (s.1 16)), li ((s.2 13 (s.1 16)) + a1)] [vi 0] s (qi F)
        replace H := H.2 h
        refine w_if_eq rfl (fun _ => ?_) (fun h => absurd h (by decide))
        refine w_bipush (n := (-9)) rfl rfl rfl ?_
        exact w_iret rfl rfl ⟨_, rfl, H⟩
  · replace H := H.2 h
    refine w_bipush (n := (-9)) rfl rfl rfl ?_
    refine w_goto rfl ?_
    refine w_istore_n rfl rfl ?_
    refine w_iload_n rfl rfl ?_
    refine w_bipush (n := (-9)) rfl rfl rfl ?_
    refine w_icmp_eq rfl (fun h => ?_) (fun h => ?_)
    · replace H := H.1 h
      refine w_bipush (n := (-9)) rfl rfl rfl ?_
      exact w_iret rfl rfl ⟨_, rfl, H⟩
    · replace H := H.2 h
      refine w_iload_n rfl rfl ?_
      refine w_iconst (n := 0) rfl rfl ?_
      refine w_aload_n rfl rfl ?_
      refine m_geta (t := 0) (k := 3004) rfl rfl ?_
      refine w_iload_n rfl rfl ?_
      obtain ⟨g9, H⟩ := H
      refine m_ald rfl (f := 9) (k := 3004) rfl g9 ?_
      obtain ⟨g10, H⟩ := H
      refine w_static (as := [vi (s.2 9 (s.2 12 (s.1 16)))]) (r := [vi 0, vi (-9)]) rfl rfl rfl rfl rfl (m_parts g10 ?_)
      show wm iv L h0 (d + 1) 103 50 [lr 307, li a1, li (s.2 12 (s.1 16)), li (-9)] [vi (pO (s.2 9 (s.2 12 (s.1 16)))), vi 0, vi (-9)] s (qi F)
      refine w_iconst (n := 1) rfl rfl ?_
      obtain ⟨g11, H⟩ := H
      refine w_isub rfl g11 ?_
      refine w_static (as := [vi (-9), vi 0, vi ((pO (s.2 9 (s.2 12 (s.1 16)))) - 1)]) (r := []) rfl rfl rfl rfl rfl (m_in (fun h => ?_) (fun h => ?_))
      · show wm iv L h0 (d + 1) 103 55 [lr 307, li a1, li (s.2 12 (s.1 16)), li (-9)] [vi 1] s (qi F)
        replace H := H.1 h
        refine w_if_eq rfl (fun h => absurd h (by decide)) (fun _ => ?_)
        refine w_aload_n rfl rfl ?_
        refine m_geta (t := 0) (k := 9012) rfl rfl ?_
        refine w_iconst (n := 3) rfl rfl ?_
        refine w_iload_n rfl rfl ?_
        obtain ⟨g12, H⟩ := H
        refine w_imul rfl g12 ?_
        refine w_iload_n rfl rfl ?_
        obtain ⟨g13, H⟩ := H
        refine w_iadd rfl g13 ?_
        show wm iv L h0 (d + 1) 103 67 [lr 307, li a1, li (s.2 12 (s.1 16)), li (-9)] [vi ((3 * (s.2 12 (s.1 16))) - 9), vr 318] s (qi F)
        obtain ⟨g14, H⟩ := H
        refine m_ald rfl (f := 14) (k := 9012) rfl g14 ?_
        refine w_goto rfl ?_
        exact w_iret rfl rfl ⟨_, rfl, H⟩
      · show wm iv L h0 (d + 1) 103 55 [lr 307, li a1, li (s.2 12 (s.1 16)), li (-9)] [vi 0] s (qi F)
        replace H := H.2 h
        refine w_if_eq rfl (fun _ => ?_) (fun h => absurd h (by decide))
        refine w_bipush (n := (-9)) rfl rfl rfl ?_
        exact w_iret rfl rfl ⟨_, rfl, H⟩

/-- HoleDeskModel.holeBehind()I -/
theorem B104 {iv : List (Int × Int)} {L : Nat} {h0 : MH} {d : Nat} {s : SM} {F : Int → SM → Prop} (H : cm iv L h0 d 79 [vr 307] s (qv fun s1 => wm iv L h0 (d + 1) 104 8 [lr 307, li 0, li 0] [] s1 (qi F))) : cm iv L h0 (d + 1) 104 [vr 307] s (qi F) := by
  show wm iv L h0 (d + 1) 104 0 [lr 307] [] s (qi F)
  refine w_aload_n rfl rfl ?_
  refine m_call (as := []) (r := []) rfl rfl rfl rfl rfl rfl (wc_mono H (Nat.le_refl _) ?_)
  rintro _ s1 ⟨rfl, H⟩
  show wm iv L h0 (d + 1) 104 4 [lr 307] [] s1 (qi F)
  refine w_iconst (n := 0) rfl rfl ?_
  refine w_istore_n rfl rfl ?_
  refine w_iconst (n := 0) rfl rfl ?_
  refine w_istore_n rfl rfl ?_
  exact wp_ls (sl_s (sl_s (sl_s (sl_0)))) H

/-- HoleDeskModel.holeBehind()I at 8 -/
theorem B104_8 {iv : List (Int × Int)} {L : Nat} {h0 : MH} {d : Nat} {s : SM} {l1 : Int} {l2 : Int} {F : Int → SM → Prop} (H : ((s.1 18 ≤ l2 → F (-9) s) ∧ (l2 < s.1 18 → ((l1 = 0 → ((l1 ≠ 0 → (-2147483648 ≤ l2 + 1 ∧ l2 + 1 ≤ 2147483647) ∧ wm iv L h0 (d + 1) 104 8 [lr 307, li 1, li (l2 + 1)] [] s (qi F)) ∧ (l1 = 0 → (0 ≤ l2 ∧ l2 < 80) ∧ ((s.2 17 l2 ≠ s.1 16 → (-2147483648 ≤ l2 + 1 ∧ l2 + 1 ≤ 2147483647) ∧ wm iv L h0 (d + 1) 104 8 [lr 307, li 0, li (l2 + 1)] [] s (qi F)) ∧ (s.2 17 l2 = s.1 16 → (-2147483648 ≤ l2 + 1 ∧ l2 + 1 ≤ 2147483647) ∧ wm iv L h0 (d + 1) 104 8 [lr 307, li 1, li (l2 + 1)] [] s (qi F)))))) ∧ (l1 ≠ 0 → (0 ≤ l2 ∧ l2 < 80) ∧ (0 ≤ s.2 17 l2 ∧ s.2 17 l2 < 3004) ∧ ((s.2 9 (s.2 17 l2) ≠ 0 → ((l1 ≠ 0 → (-2147483648 ≤ l2 + 1 ∧ l2 + 1 ≤ 2147483647) ∧ wm iv L h0 (d + 1) 104 8 [lr 307, li 1, li (l2 + 1)] [] s (qi F)) ∧ (l1 = 0 → ((s.2 17 l2 ≠ s.1 16 → (-2147483648 ≤ l2 + 1 ∧ l2 + 1 ≤ 2147483647) ∧ wm iv L h0 (d + 1) 104 8 [lr 307, li 0, li (l2 + 1)] [] s (qi F)) ∧ (s.2 17 l2 = s.1 16 → (-2147483648 ≤ l2 + 1 ∧ l2 + 1 ≤ 2147483647) ∧ wm iv L h0 (d + 1) 104 8 [lr 307, li 1, li (l2 + 1)] [] s (qi F)))))) ∧ (s.2 9 (s.2 17 l2) = 0 → F (s.2 17 l2) s))))))) : wm iv L h0 (d + 1) 104 8 [lr 307, li l1, li l2] [] s (qi F) := by
  refine w_iload_n rfl rfl ?_
  refine w_aload_n rfl rfl ?_
  refine m_get rfl rfl ?_
  refine w_icmp_ge rfl (fun h => ?_) (fun h => ?_)
  · replace H := H.1 h
    refine w_bipush (n := (-9)) rfl rfl rfl ?_
    exact w_iret rfl rfl ⟨_, rfl, H⟩
  · replace H := H.2 h
    refine w_iload_n rfl rfl ?_
    refine w_if_eq rfl (fun h => ?_) (fun h => ?_)
    · replace H := H.1 h
      refine w_iload_n rfl rfl ?_
      refine w_if_ne rfl (fun h => ?_) (fun h => ?_)
      · replace H := H.1 h
        refine w_iconst (n := 1) rfl rfl ?_
        refine w_goto rfl ?_
        refine w_istore_n rfl rfl ?_
        obtain ⟨g1, H⟩ := H
        refine w_iinc rfl rfl rfl g1 ?_
        refine w_goto rfl ?_
        exact wp_ls (sl_s (sl_s (sl_s (sl_0)))) H
      · replace H := H.2 h
        refine w_aload_n rfl rfl ?_
        refine m_geta (t := 0) (k := 80) rfl rfl ?_
        refine w_iload_n rfl rfl ?_
        obtain ⟨g2, H⟩ := H
        refine m_ald rfl (f := 17) (k := 80) rfl g2 ?_
        refine w_aload_n rfl rfl ?_
        refine m_get rfl rfl ?_
        refine w_icmp_ne rfl (fun h => ?_) (fun h => ?_)
        · replace H := H.1 h
          refine w_iconst (n := 0) rfl rfl ?_
          refine w_istore_n rfl rfl ?_
          obtain ⟨g3, H⟩ := H
          refine w_iinc rfl rfl rfl g3 ?_
          refine w_goto rfl ?_
          exact wp_ls (sl_s (sl_s (sl_s (sl_0)))) H
        · replace H := H.2 h
          refine w_iconst (n := 1) rfl rfl ?_
          refine w_goto rfl ?_
          refine w_istore_n rfl rfl ?_
          obtain ⟨g4, H⟩ := H
          refine w_iinc rfl rfl rfl g4 ?_
          refine w_goto rfl ?_
          exact wp_ls (sl_s (sl_s (sl_s (sl_0)))) H
    · replace H := H.2 h
      refine w_aload_n rfl rfl ?_
      refine m_geta (t := 0) (k := 3004) rfl rfl ?_
      refine w_aload_n rfl rfl ?_
      refine m_geta (t := 0) (k := 80) rfl rfl ?_
      refine w_iload_n rfl rfl ?_
      obtain ⟨g5, H⟩ := H
      refine m_ald rfl (f := 17) (k := 80) rfl g5 ?_
      obtain ⟨g6, H⟩ := H
      refine m_ald rfl (f := 9) (k := 3004) rfl g6 ?_
      refine w_if_ne rfl (fun h => ?_) (fun h => ?_)
      · replace H := H.1 h
        refine w_iload_n rfl rfl ?_
        refine w_if_ne rfl (fun h => ?_) (fun h => ?_)
        · replace H := H.1 h
          refine w_iconst (n := 1) rfl rfl ?_
          refine w_goto rfl ?_
          refine w_istore_n rfl rfl ?_
          obtain ⟨g7, H⟩ := H
          refine w_iinc rfl rfl rfl g7 ?_
          refine w_goto rfl ?_
          exact wp_ls (sl_s (sl_s (sl_s (sl_0)))) H
        · replace H := H.2 h
          refine w_aload_n rfl rfl ?_
          refine m_geta (t := 0) (k := 80) rfl rfl ?_
          refine w_iload_n rfl rfl ?_
          refine m_ald rfl (f := 17) (k := 80) rfl g5 ?_
          refine w_aload_n rfl rfl ?_
          refine m_get rfl rfl ?_
          refine w_icmp_ne rfl (fun h => ?_) (fun h => ?_)
          · replace H := H.1 h
            refine w_iconst (n := 0) rfl rfl ?_
            refine w_istore_n rfl rfl ?_
            obtain ⟨g8, H⟩ := H
            refine w_iinc rfl rfl rfl g8 ?_
            refine w_goto rfl ?_
            exact wp_ls (sl_s (sl_s (sl_s (sl_0)))) H
          · replace H := H.2 h
            refine w_iconst (n := 1) rfl rfl ?_
            refine w_goto rfl ?_
            refine w_istore_n rfl rfl ?_
            obtain ⟨g9, H⟩ := H
            refine w_iinc rfl rfl rfl g9 ?_
            refine w_goto rfl ?_
            exact wp_ls (sl_s (sl_s (sl_s (sl_0)))) H
      · replace H := H.2 h
        refine w_aload_n rfl rfl ?_
        refine m_geta (t := 0) (k := 80) rfl rfl ?_
        refine w_iload_n rfl rfl ?_
        refine m_ald rfl (f := 17) (k := 80) rfl g5 ?_
        exact w_iret rfl rfl ⟨_, rfl, H⟩

/-- HoleDeskModel.go(I)I -/
theorem B105 {iv : List (Int × Int)} {L : Nat} {h0 : MH} {d : Nat} {s : SM} {a1 : Int} {F : Int → SM → Prop} (H : ((a1 = 0 → (0 ≤ s.1 16 ∧ s.1 16 < 3004) ∧ cm iv L h0 d 102 [vr 307, vi (s.2 12 (s.1 16))] s (qi fun r3 s2 => F r3 s2)) ∧ (a1 = 1 → (0 ≤ s.1 16 ∧ s.1 16 < 3004) ∧ (0 ≤ s.2 9 (s.1 16) ∧ s.2 9 (s.1 16) < 16) ∧ ((pO (s.2 9 (s.1 16)) ≤ 0 → cm iv L h0 d 102 [vr 307, vi (-9)] s (qi fun r7 s6 => F r7 s6)) ∧ (0 < pO (s.2 9 (s.1 16)) → (-2147483648 ≤ 3 * (s.1 16) ∧ 3 * (s.1 16) ≤ 2147483647) ∧ (0 ≤ 3 * (s.1 16) ∧ 3 * (s.1 16) < 9012) ∧ cm iv L h0 d 102 [vr 307, vi (s.2 14 (3 * (s.1 16)))] s (qi fun r11 s10 => F r11 s10)))) ∧ (a1 = 2 → cm iv L h0 d 103 [vr 307, vi 1] s (qi fun r13 s12 => cm iv L h0 d 102 [vr 307, vi r13] s12 (qi fun r15 s14 => F r15 s14))) ∧ (a1 = 3 → cm iv L h0 d 103 [vr 307, vi (-1)] s (qi fun r17 s16 => cm iv L h0 d 102 [vr 307, vi r17] s16 (qi fun r19 s18 => F r19 s18))) ∧ (a1 = 4 → cm iv L h0 d 104 [vr 307] s (qi fun r21 s20 => cm iv L h0 d 102 [vr 307, vi r21] s20 (qi fun r23 s22 => F r23 s22))) ∧ (a1 = 5 → cm iv L h0 d 102 [vr 307, vi (s.1 15)] s (qi fun r25 s24 => F r25 s24)) ∧ (a1 < 0 ∨ 5 < a1 → F (-1) s))) : cm iv L h0 (d + 1) 105 [vr 307, vi a1] s (qi F) := by
  show wm iv L h0 (d + 1) 105 0 [lr 307, li a1] [] s (qi F)
  refine w_iload_n rfl rfl ?_
  have J40 : (a1 = 0) → wm iv L h0 (d + 1) 105 40 [lr 307, li a1] [] s (qi F) := fun h => by
    replace H := H.1 h
    refine w_aload_n rfl rfl ?_
    refine w_aload_n rfl rfl ?_
    refine m_geta (t := 0) (k := 3004) rfl rfl ?_
    refine w_aload_n rfl rfl ?_
    refine m_get rfl rfl ?_
    obtain ⟨g1, H⟩ := H
    refine m_ald rfl (f := 12) (k := 3004) rfl g1 ?_
    refine m_call (as := [vi (s.2 12 (s.1 16))]) (r := []) rfl rfl rfl rfl rfl rfl (wc_mono H (Nat.le_refl _) ?_)
    rintro _ s2 ⟨r3, rfl, H⟩
    show wm iv L h0 (d + 1) 105 53 [lr 307, li a1] [vi r3] s2 (qi F)
    exact w_iret rfl rfl ⟨_, rfl, H⟩
  have J54 : (a1 = 1) → wm iv L h0 (d + 1) 105 54 [lr 307, li a1] [] s (qi F) := fun h => by
    replace H := H.2.1 h
    refine w_aload_n rfl rfl ?_
    refine w_aload_n rfl rfl ?_
    refine m_geta (t := 0) (k := 3004) rfl rfl ?_
    refine w_aload_n rfl rfl ?_
    refine m_get rfl rfl ?_
    obtain ⟨g4, H⟩ := H
    refine m_ald rfl (f := 9) (k := 3004) rfl g4 ?_
    obtain ⟨g5, H⟩ := H
    refine w_static (as := [vi (s.2 9 (s.1 16))]) (r := [vr 307]) rfl rfl rfl rfl rfl (m_parts g5 ?_)
    show wm iv L h0 (d + 1) 105 67 [lr 307, li a1] [vi (pO (s.2 9 (s.1 16))), vr 307] s (qi F)
    refine w_if_le rfl (fun h => ?_) (fun h => ?_)
    · replace H := H.1 h
      refine w_bipush (n := (-9)) rfl rfl rfl ?_
      refine m_call (as := [vi (-9)]) (r := []) rfl rfl rfl rfl rfl rfl (wc_mono H (Nat.le_refl _) ?_)
      rintro _ s6 ⟨r7, rfl, H⟩
      show wm iv L h0 (d + 1) 105 89 [lr 307, li a1] [vi r7] s6 (qi F)
      exact w_iret rfl rfl ⟨_, rfl, H⟩
    · replace H := H.2 h
      refine w_aload_n rfl rfl ?_
      refine m_geta (t := 0) (k := 9012) rfl rfl ?_
      refine w_iconst (n := 3) rfl rfl ?_
      refine w_aload_n rfl rfl ?_
      refine m_get rfl rfl ?_
      obtain ⟨g8, H⟩ := H
      refine w_imul rfl g8 ?_
      obtain ⟨g9, H⟩ := H
      refine m_ald rfl (f := 14) (k := 9012) rfl g9 ?_
      refine w_goto rfl ?_
      refine m_call (as := [vi (s.2 14 (3 * (s.1 16)))]) (r := []) rfl rfl rfl rfl rfl rfl (wc_mono H (Nat.le_refl _) ?_)
      rintro _ s10 ⟨r11, rfl, H⟩
      show wm iv L h0 (d + 1) 105 89 [lr 307, li a1] [vi r11] s10 (qi F)
      exact w_iret rfl rfl ⟨_, rfl, H⟩
  have J90 : (a1 = 2) → wm iv L h0 (d + 1) 105 90 [lr 307, li a1] [] s (qi F) := fun h => by
    replace H := H.2.2.1 h
    refine w_aload_n rfl rfl ?_
    refine w_aload_n rfl rfl ?_
    refine w_iconst (n := 1) rfl rfl ?_
    refine m_call (as := [vi 1]) (r := [vr 307]) rfl rfl rfl rfl rfl rfl (wc_mono H (Nat.le_refl _) ?_)
    rintro _ s12 ⟨r13, rfl, H⟩
    show wm iv L h0 (d + 1) 105 96 [lr 307, li a1] [vi r13, vr 307] s12 (qi F)
    refine m_call (as := [vi r13]) (r := []) rfl rfl rfl rfl rfl rfl (wc_mono H (Nat.le_refl _) ?_)
    rintro _ s14 ⟨r15, rfl, H⟩
    show wm iv L h0 (d + 1) 105 99 [lr 307, li a1] [vi r15] s14 (qi F)
    exact w_iret rfl rfl ⟨_, rfl, H⟩
  have J100 : (a1 = 3) → wm iv L h0 (d + 1) 105 100 [lr 307, li a1] [] s (qi F) := fun h => by
    replace H := H.2.2.2.1 h
    refine w_aload_n rfl rfl ?_
    refine w_aload_n rfl rfl ?_
    refine w_iconst (n := (-1)) rfl rfl ?_
    refine m_call (as := [vi (-1)]) (r := [vr 307]) rfl rfl rfl rfl rfl rfl (wc_mono H (Nat.le_refl _) ?_)
    rintro _ s16 ⟨r17, rfl, H⟩
    show wm iv L h0 (d + 1) 105 106 [lr 307, li a1] [vi r17, vr 307] s16 (qi F)
    refine m_call (as := [vi r17]) (r := []) rfl rfl rfl rfl rfl rfl (wc_mono H (Nat.le_refl _) ?_)
    rintro _ s18 ⟨r19, rfl, H⟩
    show wm iv L h0 (d + 1) 105 109 [lr 307, li a1] [vi r19] s18 (qi F)
    exact w_iret rfl rfl ⟨_, rfl, H⟩
  have J110 : (a1 = 4) → wm iv L h0 (d + 1) 105 110 [lr 307, li a1] [] s (qi F) := fun h => by
    replace H := H.2.2.2.2.1 h
    refine w_aload_n rfl rfl ?_
    refine w_aload_n rfl rfl ?_
    refine m_call (as := []) (r := [vr 307]) rfl rfl rfl rfl rfl rfl (wc_mono H (Nat.le_refl _) ?_)
    rintro _ s20 ⟨r21, rfl, H⟩
    show wm iv L h0 (d + 1) 105 115 [lr 307, li a1] [vi r21, vr 307] s20 (qi F)
    refine m_call (as := [vi r21]) (r := []) rfl rfl rfl rfl rfl rfl (wc_mono H (Nat.le_refl _) ?_)
    rintro _ s22 ⟨r23, rfl, H⟩
    show wm iv L h0 (d + 1) 105 118 [lr 307, li a1] [vi r23] s22 (qi F)
    exact w_iret rfl rfl ⟨_, rfl, H⟩
  have J119 : (a1 = 5) → wm iv L h0 (d + 1) 105 119 [lr 307, li a1] [] s (qi F) := fun h => by
    replace H := H.2.2.2.2.2.1 h
    refine w_aload_n rfl rfl ?_
    refine w_aload_n rfl rfl ?_
    refine m_get rfl rfl ?_
    refine m_call (as := [vi (s.1 15)]) (r := []) rfl rfl rfl rfl rfl rfl (wc_mono H (Nat.le_refl _) ?_)
    rintro _ s24 ⟨r25, rfl, H⟩
    show wm iv L h0 (d + 1) 105 127 [lr 307, li a1] [vi r25] s24 (qi F)
    exact w_iret rfl rfl ⟨_, rfl, H⟩
  have J128 : (a1 < 0 ∨ 5 < a1) → wm iv L h0 (d + 1) 105 128 [lr 307, li a1] [] s (qi F) := fun h => by
    replace H := H.2.2.2.2.2.2 h
    refine w_iconst (n := (-1)) rfl rfl ?_
    exact w_iret rfl rfl ⟨_, rfl, H⟩
  refine w_tsw (td := 128) (ts := [40, 54, 90, 100, 110, 119]) rfl rfl rfl rfl rfl rfl (fun h => J128 (by omega)) ?_
  exact swA_c (fun h => J40 (by omega)) (swA_c (fun h => J54 (by omega)) (swA_c (fun h => J90 (by omega)) (swA_c (fun h => J100 (by omega)) (swA_c (fun h => J110 (by omega)) (swA_c (fun h => J119 (by omega)) (swA_n))))))

/-- HoleDeskModel.seek(I)I -/
theorem B106 {iv : List (Int × Int)} {L : Nat} {h0 : MH} {d : Nat} {s : SM} {a1 : Int} {F : Int → SM → Prop} (H : cm iv L h0 d 80 [vr 307, vi a1] s (qi fun r2 s1 => ((r2 ≠ 0 → F 1 (us s1 16 a1)) ∧ (r2 = 0 → F (-1) s1)))) : cm iv L h0 (d + 1) 106 [vr 307, vi a1] s (qi F) := by
  show wm iv L h0 (d + 1) 106 0 [lr 307, li a1] [] s (qi F)
  refine w_aload_n rfl rfl ?_
  refine w_iload_n rfl rfl ?_
  refine m_call (as := [vi a1]) (r := []) rfl rfl rfl rfl rfl rfl (wc_mono H (Nat.le_refl _) ?_)
  rintro _ s1 ⟨r2, rfl, H⟩
  show wm iv L h0 (d + 1) 106 5 [lr 307, li a1] [vi r2] s1 (qi F)
  refine w_if_ne rfl (fun h => ?_) (fun h => ?_)
  · replace H := H.1 h
    refine w_aload_n rfl rfl ?_
    refine w_iload_n rfl rfl ?_
    refine m_put rfl rfl rfl ?_
    refine w_iconst (n := 1) rfl rfl ?_
    exact w_iret rfl rfl ⟨_, rfl, H⟩
  · replace H := H.2 h
    refine w_iconst (n := (-1)) rfl rfl ?_
    exact w_iret rfl rfl ⟨_, rfl, H⟩

/-- HoleDeskModel.put(III)I -/
theorem B107 {iv : List (Int × Int)} {L : Nat} {h0 : MH} {d : Nat} {s : SM} {a1 : Int} {a2 : Int} {a3 : Int} {F : Int → SM → Prop} (H : ((0 ≤ a1 ∧ a1 ≤ 15 → ((a1 ≠ 2 → ((a1 = 3 → ((0 ≤ a2 ∧ a2 ≤ 25 → ((a1 = 8 → (3 ≤ s.1 2 ∧ s.1 2 ≤ 40) ∧ ((0 ≤ a3 ∧ a3 < s.1 2 → wm iv L h0 (d + 2) 107 76 [lr 307, li a1, li a2, li a3] [vi 1] s (qi F)) ∧ (a3 < 0 ∨ s.1 2 ≤ a3 → wm iv L h0 (d + 2) 107 76 [lr 307, li a1, li a2, li a3] [vi 0] s (qi F)))) ∧ (a1 ≠ 8 → ((a1 ≠ 15 → wm iv L h0 (d + 2) 107 76 [lr 307, li a1, li a2, li a3] [vi 1] s (qi F)) ∧ (a1 = 15 → (3 ≤ s.1 2 ∧ s.1 2 ≤ 40) ∧ ((0 ≤ a3 ∧ a3 < s.1 2 → wm iv L h0 (d + 2) 107 76 [lr 307, li a1, li a2, li a3] [vi 1] s (qi F)) ∧ (a3 < 0 ∨ s.1 2 ≤ a3 → wm iv L h0 (d + 2) 107 76 [lr 307, li a1, li a2, li a3] [vi 0] s (qi F)))))))) ∧ (a2 < 0 ∨ 25 < a2 → wm iv L h0 (d + 2) 107 76 [lr 307, li a1, li a2, li a3] [vi 0] s (qi F)))) ∧ (a1 ≠ 3 → ((a1 = 8 → ((0 ≤ a2 ∧ a2 ≤ 25 → ((a1 = 8 → (3 ≤ s.1 2 ∧ s.1 2 ≤ 40) ∧ ((0 ≤ a3 ∧ a3 < s.1 2 → wm iv L h0 (d + 2) 107 76 [lr 307, li a1, li a2, li a3] [vi 1] s (qi F)) ∧ (a3 < 0 ∨ s.1 2 ≤ a3 → wm iv L h0 (d + 2) 107 76 [lr 307, li a1, li a2, li a3] [vi 0] s (qi F)))) ∧ (a1 ≠ 8 → ((a1 ≠ 15 → wm iv L h0 (d + 2) 107 76 [lr 307, li a1, li a2, li a3] [vi 1] s (qi F)) ∧ (a1 = 15 → (3 ≤ s.1 2 ∧ s.1 2 ≤ 40) ∧ ((0 ≤ a3 ∧ a3 < s.1 2 → wm iv L h0 (d + 2) 107 76 [lr 307, li a1, li a2, li a3] [vi 1] s (qi F)) ∧ (a3 < 0 ∨ s.1 2 ≤ a3 → wm iv L h0 (d + 2) 107 76 [lr 307, li a1, li a2, li a3] [vi 0] s (qi F)))))))) ∧ (a2 < 0 ∨ 25 < a2 → wm iv L h0 (d + 2) 107 76 [lr 307, li a1, li a2, li a3] [vi 0] s (qi F)))) ∧ (a1 ≠ 8 → ((a1 ≠ 10 → ((a1 = 8 → (3 ≤ s.1 2 ∧ s.1 2 ≤ 40) ∧ ((0 ≤ a3 ∧ a3 < s.1 2 → wm iv L h0 (d + 2) 107 76 [lr 307, li a1, li a2, li a3] [vi 1] s (qi F)) ∧ (a3 < 0 ∨ s.1 2 ≤ a3 → wm iv L h0 (d + 2) 107 76 [lr 307, li a1, li a2, li a3] [vi 0] s (qi F)))) ∧ (a1 ≠ 8 → ((a1 ≠ 15 → wm iv L h0 (d + 2) 107 76 [lr 307, li a1, li a2, li a3] [vi 1] s (qi F)) ∧ (a1 = 15 → (3 ≤ s.1 2 ∧ s.1 2 ≤ 40) ∧ ((0 ≤ a3 ∧ a3 < s.1 2 → wm iv L h0 (d + 2) 107 76 [lr 307, li a1, li a2, li a3] [vi 1] s (qi F)) ∧ (a3 < 0 ∨ s.1 2 ≤ a3 → wm iv L h0 (d + 2) 107 76 [lr 307, li a1, li a2, li a3] [vi 0] s (qi F)))))))) ∧ (a1 = 10 → ((0 ≤ a2 ∧ a2 ≤ 25 → ((a1 = 8 → (3 ≤ s.1 2 ∧ s.1 2 ≤ 40) ∧ ((0 ≤ a3 ∧ a3 < s.1 2 → wm iv L h0 (d + 2) 107 76 [lr 307, li a1, li a2, li a3] [vi 1] s (qi F)) ∧ (a3 < 0 ∨ s.1 2 ≤ a3 → wm iv L h0 (d + 2) 107 76 [lr 307, li a1, li a2, li a3] [vi 0] s (qi F)))) ∧ (a1 ≠ 8 → ((a1 ≠ 15 → wm iv L h0 (d + 2) 107 76 [lr 307, li a1, li a2, li a3] [vi 1] s (qi F)) ∧ (a1 = 15 → (3 ≤ s.1 2 ∧ s.1 2 ≤ 40) ∧ ((0 ≤ a3 ∧ a3 < s.1 2 → wm iv L h0 (d + 2) 107 76 [lr 307, li a1, li a2, li a3] [vi 1] s (qi F)) ∧ (a3 < 0 ∨ s.1 2 ≤ a3 → wm iv L h0 (d + 2) 107 76 [lr 307, li a1, li a2, li a3] [vi 0] s (qi F)))))))) ∧ (a2 < 0 ∨ 25 < a2 → wm iv L h0 (d + 2) 107 76 [lr 307, li a1, li a2, li a3] [vi 0] s (qi F)))))))))) ∧ (a1 = 2 → ((0 ≤ a2 ∧ a2 ≤ 1 → ((a1 = 3 → ((0 ≤ a2 ∧ a2 ≤ 25 → ((a1 = 8 → (3 ≤ s.1 2 ∧ s.1 2 ≤ 40) ∧ ((0 ≤ a3 ∧ a3 < s.1 2 → wm iv L h0 (d + 2) 107 76 [lr 307, li a1, li a2, li a3] [vi 1] s (qi F)) ∧ (a3 < 0 ∨ s.1 2 ≤ a3 → wm iv L h0 (d + 2) 107 76 [lr 307, li a1, li a2, li a3] [vi 0] s (qi F)))) ∧ (a1 ≠ 8 → ((a1 ≠ 15 → wm iv L h0 (d + 2) 107 76 [lr 307, li a1, li a2, li a3] [vi 1] s (qi F)) ∧ (a1 = 15 → (3 ≤ s.1 2 ∧ s.1 2 ≤ 40) ∧ ((0 ≤ a3 ∧ a3 < s.1 2 → wm iv L h0 (d + 2) 107 76 [lr 307, li a1, li a2, li a3] [vi 1] s (qi F)) ∧ (a3 < 0 ∨ s.1 2 ≤ a3 → wm iv L h0 (d + 2) 107 76 [lr 307, li a1, li a2, li a3] [vi 0] s (qi F)))))))) ∧ (a2 < 0 ∨ 25 < a2 → wm iv L h0 (d + 2) 107 76 [lr 307, li a1, li a2, li a3] [vi 0] s (qi F)))) ∧ (a1 ≠ 3 → ((a1 = 8 → ((0 ≤ a2 ∧ a2 ≤ 25 → ((a1 = 8 → (3 ≤ s.1 2 ∧ s.1 2 ≤ 40) ∧ ((0 ≤ a3 ∧ a3 < s.1 2 → wm iv L h0 (d + 2) 107 76 [lr 307, li a1, li a2, li a3] [vi 1] s (qi F)) ∧ (a3 < 0 ∨ s.1 2 ≤ a3 → wm iv L h0 (d + 2) 107 76 [lr 307, li a1, li a2, li a3] [vi 0] s (qi F)))) ∧ (a1 ≠ 8 → ((a1 ≠ 15 → wm iv L h0 (d + 2) 107 76 [lr 307, li a1, li a2, li a3] [vi 1] s (qi F)) ∧ (a1 = 15 → (3 ≤ s.1 2 ∧ s.1 2 ≤ 40) ∧ ((0 ≤ a3 ∧ a3 < s.1 2 → wm iv L h0 (d + 2) 107 76 [lr 307, li a1, li a2, li a3] [vi 1] s (qi F)) ∧ (a3 < 0 ∨ s.1 2 ≤ a3 → wm iv L h0 (d + 2) 107 76 [lr 307, li a1, li a2, li a3] [vi 0] s (qi F)))))))) ∧ (a2 < 0 ∨ 25 < a2 → wm iv L h0 (d + 2) 107 76 [lr 307, li a1, li a2, li a3] [vi 0] s (qi F)))) ∧ (a1 ≠ 8 → ((a1 ≠ 10 → ((a1 = 8 → (3 ≤ s.1 2 ∧ s.1 2 ≤ 40) ∧ ((0 ≤ a3 ∧ a3 < s.1 2 → wm iv L h0 (d + 2) 107 76 [lr 307, li a1, li a2, li a3] [vi 1] s (qi F)) ∧ (a3 < 0 ∨ s.1 2 ≤ a3 → wm iv L h0 (d + 2) 107 76 [lr 307, li a1, li a2, li a3] [vi 0] s (qi F)))) ∧ (a1 ≠ 8 → ((a1 ≠ 15 → wm iv L h0 (d + 2) 107 76 [lr 307, li a1, li a2, li a3] [vi 1] s (qi F)) ∧ (a1 = 15 → (3 ≤ s.1 2 ∧ s.1 2 ≤ 40) ∧ ((0 ≤ a3 ∧ a3 < s.1 2 → wm iv L h0 (d + 2) 107 76 [lr 307, li a1, li a2, li a3] [vi 1] s (qi F)) ∧ (a3 < 0 ∨ s.1 2 ≤ a3 → wm iv L h0 (d + 2) 107 76 [lr 307, li a1, li a2, li a3] [vi 0] s (qi F)))))))) ∧ (a1 = 10 → ((0 ≤ a2 ∧ a2 ≤ 25 → ((a1 = 8 → (3 ≤ s.1 2 ∧ s.1 2 ≤ 40) ∧ ((0 ≤ a3 ∧ a3 < s.1 2 → wm iv L h0 (d + 2) 107 76 [lr 307, li a1, li a2, li a3] [vi 1] s (qi F)) ∧ (a3 < 0 ∨ s.1 2 ≤ a3 → wm iv L h0 (d + 2) 107 76 [lr 307, li a1, li a2, li a3] [vi 0] s (qi F)))) ∧ (a1 ≠ 8 → ((a1 ≠ 15 → wm iv L h0 (d + 2) 107 76 [lr 307, li a1, li a2, li a3] [vi 1] s (qi F)) ∧ (a1 = 15 → (3 ≤ s.1 2 ∧ s.1 2 ≤ 40) ∧ ((0 ≤ a3 ∧ a3 < s.1 2 → wm iv L h0 (d + 2) 107 76 [lr 307, li a1, li a2, li a3] [vi 1] s (qi F)) ∧ (a3 < 0 ∨ s.1 2 ≤ a3 → wm iv L h0 (d + 2) 107 76 [lr 307, li a1, li a2, li a3] [vi 0] s (qi F)))))))) ∧ (a2 < 0 ∨ 25 < a2 → wm iv L h0 (d + 2) 107 76 [lr 307, li a1, li a2, li a3] [vi 0] s (qi F)))))))))) ∧ (a2 < 0 ∨ 1 < a2 → wm iv L h0 (d + 2) 107 76 [lr 307, li a1, li a2, li a3] [vi 0] s (qi F)))))) ∧ (a1 < 0 ∨ 15 < a1 → wm iv L h0 (d + 2) 107 76 [lr 307, li a1, li a2, li a3] [vi 0] s (qi F)))) : cm iv L h0 (d + 2) 107 [vr 307, vi a1, vi a2, vi a3] s (qi F) := by
  show wm iv L h0 (d + 2) 107 0 [lr 307, li a1, li a2, li a3] [] s (qi F)
  refine w_iload_n rfl rfl ?_
  refine w_iconst (n := 0) rfl rfl ?_
  refine w_bipush (n := 15) rfl rfl rfl ?_
  refine w_static (as := [vi a1, vi 0, vi 15]) (r := []) rfl rfl rfl rfl rfl (m_in (fun h => ?_) (fun h => ?_))
  · show wm iv L h0 (d + 2) 107 7 [lr 307, li a1, li a2, li a3] [vi 1] s (qi F)
    replace H := H.1 h
    refine w_if_eq rfl (fun h => absurd h (by decide)) (fun _ => ?_)
    refine w_iload_n rfl rfl ?_
    refine w_iconst (n := 2) rfl rfl ?_
    refine w_icmp_ne rfl (fun h => ?_) (fun h => ?_)
    · replace H := H.1 h
      refine w_iload_n rfl rfl ?_
      refine w_iconst (n := 3) rfl rfl ?_
      refine w_icmp_eq rfl (fun h => ?_) (fun h => ?_)
      · replace H := H.1 h
        refine w_iload_n rfl rfl ?_
        refine w_iconst (n := 0) rfl rfl ?_
        refine w_bipush (n := 25) rfl rfl rfl ?_
        refine w_static (as := [vi a2, vi 0, vi 25]) (r := []) rfl rfl rfl rfl rfl (m_in (fun h => ?_) (fun h => ?_))
        · show wm iv L h0 (d + 2) 107 48 [lr 307, li a1, li a2, li a3] [vi 1] s (qi F)
          replace H := H.1 h
          refine w_if_eq rfl (fun h => absurd h (by decide)) (fun _ => ?_)
          refine w_iload_n rfl rfl ?_
          refine w_bipush (n := 8) rfl rfl rfl ?_
          refine w_icmp_eq rfl (fun h => ?_) (fun h => ?_)
          · replace H := H.1 h
            refine w_aload_n rfl rfl ?_
            refine w_iload_n rfl rfl ?_
            obtain ⟨g1, H⟩ := H
            refine m_call (as := [vi a3]) (r := []) rfl rfl rfl rfl rfl rfl (m_isKind g1 (fun h => ?_) (fun h => ?_))
            · show wm iv L h0 (d + 2) 107 68 [lr 307, li a1, li a2, li a3] [vi 1] s (qi F)
              replace H := H.1 h
              refine w_if_eq rfl (fun h => absurd h (by decide)) (fun _ => ?_)
              refine w_iconst (n := 1) rfl rfl ?_
              refine w_goto rfl ?_
              exact wp_ls (sl_s (sl_s (sl_s (sl_s (sl_0))))) H
            · show wm iv L h0 (d + 2) 107 68 [lr 307, li a1, li a2, li a3] [vi 0] s (qi F)
              replace H := H.2 h
              refine w_if_eq rfl (fun _ => ?_) (fun h => absurd h (by decide))
              refine w_iconst (n := 0) rfl rfl ?_
              exact wp_ls (sl_s (sl_s (sl_s (sl_s (sl_0))))) H
          · replace H := H.2 h
            refine w_iload_n rfl rfl ?_
            refine w_bipush (n := 15) rfl rfl rfl ?_
            refine w_icmp_ne rfl (fun h => ?_) (fun h => ?_)
            · replace H := H.1 h
              refine w_iconst (n := 1) rfl rfl ?_
              refine w_goto rfl ?_
              exact wp_ls (sl_s (sl_s (sl_s (sl_s (sl_0))))) H
            · replace H := H.2 h
              refine w_aload_n rfl rfl ?_
              refine w_iload_n rfl rfl ?_
              obtain ⟨g2, H⟩ := H
              refine m_call (as := [vi a3]) (r := []) rfl rfl rfl rfl rfl rfl (m_isKind g2 (fun h => ?_) (fun h => ?_))
              · show wm iv L h0 (d + 2) 107 68 [lr 307, li a1, li a2, li a3] [vi 1] s (qi F)
                replace H := H.1 h
                refine w_if_eq rfl (fun h => absurd h (by decide)) (fun _ => ?_)
                refine w_iconst (n := 1) rfl rfl ?_
                refine w_goto rfl ?_
                exact wp_ls (sl_s (sl_s (sl_s (sl_s (sl_0))))) H
              · show wm iv L h0 (d + 2) 107 68 [lr 307, li a1, li a2, li a3] [vi 0] s (qi F)
                replace H := H.2 h
                refine w_if_eq rfl (fun _ => ?_) (fun h => absurd h (by decide))
                refine w_iconst (n := 0) rfl rfl ?_
                exact wp_ls (sl_s (sl_s (sl_s (sl_s (sl_0))))) H
        · show wm iv L h0 (d + 2) 107 48 [lr 307, li a1, li a2, li a3] [vi 0] s (qi F)
          replace H := H.2 h
          refine w_if_eq rfl (fun _ => ?_) (fun h => absurd h (by decide))
          refine w_iconst (n := 0) rfl rfl ?_
          exact wp_ls (sl_s (sl_s (sl_s (sl_s (sl_0))))) H
      · replace H := H.2 h
        refine w_iload_n rfl rfl ?_
        refine w_bipush (n := 8) rfl rfl rfl ?_
        refine w_icmp_eq rfl (fun h => ?_) (fun h => ?_)
        · replace H := H.1 h
          refine w_iload_n rfl rfl ?_
          refine w_iconst (n := 0) rfl rfl ?_
          refine w_bipush (n := 25) rfl rfl rfl ?_
          refine w_static (as := [vi a2, vi 0, vi 25]) (r := []) rfl rfl rfl rfl rfl (m_in (fun h => ?_) (fun h => ?_))
          · show wm iv L h0 (d + 2) 107 48 [lr 307, li a1, li a2, li a3] [vi 1] s (qi F)
            replace H := H.1 h
            refine w_if_eq rfl (fun h => absurd h (by decide)) (fun _ => ?_)
            refine w_iload_n rfl rfl ?_
            refine w_bipush (n := 8) rfl rfl rfl ?_
            refine w_icmp_eq rfl (fun h => ?_) (fun h => ?_)
            · replace H := H.1 h
              refine w_aload_n rfl rfl ?_
              refine w_iload_n rfl rfl ?_
              obtain ⟨g3, H⟩ := H
              refine m_call (as := [vi a3]) (r := []) rfl rfl rfl rfl rfl rfl (m_isKind g3 (fun h => ?_) (fun h => ?_))
              · show wm iv L h0 (d + 2) 107 68 [lr 307, li a1, li a2, li a3] [vi 1] s (qi F)
                replace H := H.1 h
                refine w_if_eq rfl (fun h => absurd h (by decide)) (fun _ => ?_)
                refine w_iconst (n := 1) rfl rfl ?_
                refine w_goto rfl ?_
                exact wp_ls (sl_s (sl_s (sl_s (sl_s (sl_0))))) H
              · show wm iv L h0 (d + 2) 107 68 [lr 307, li a1, li a2, li a3] [vi 0] s (qi F)
                replace H := H.2 h
                refine w_if_eq rfl (fun _ => ?_) (fun h => absurd h (by decide))
                refine w_iconst (n := 0) rfl rfl ?_
                exact wp_ls (sl_s (sl_s (sl_s (sl_s (sl_0))))) H
            · replace H := H.2 h
              refine w_iload_n rfl rfl ?_
              refine w_bipush (n := 15) rfl rfl rfl ?_
              refine w_icmp_ne rfl (fun h => ?_) (fun h => ?_)
              · replace H := H.1 h
                refine w_iconst (n := 1) rfl rfl ?_
                refine w_goto rfl ?_
                exact wp_ls (sl_s (sl_s (sl_s (sl_s (sl_0))))) H
              · replace H := H.2 h
                refine w_aload_n rfl rfl ?_
                refine w_iload_n rfl rfl ?_
                obtain ⟨g4, H⟩ := H
                refine m_call (as := [vi a3]) (r := []) rfl rfl rfl rfl rfl rfl (m_isKind g4 (fun h => ?_) (fun h => ?_))
                · show wm iv L h0 (d + 2) 107 68 [lr 307, li a1, li a2, li a3] [vi 1] s (qi F)
                  replace H := H.1 h
                  refine w_if_eq rfl (fun h => absurd h (by decide)) (fun _ => ?_)
                  refine w_iconst (n := 1) rfl rfl ?_
                  refine w_goto rfl ?_
                  exact wp_ls (sl_s (sl_s (sl_s (sl_s (sl_0))))) H
                · show wm iv L h0 (d + 2) 107 68 [lr 307, li a1, li a2, li a3] [vi 0] s (qi F)
                  replace H := H.2 h
                  refine w_if_eq rfl (fun _ => ?_) (fun h => absurd h (by decide))
                  refine w_iconst (n := 0) rfl rfl ?_
                  exact wp_ls (sl_s (sl_s (sl_s (sl_s (sl_0))))) H
          · show wm iv L h0 (d + 2) 107 48 [lr 307, li a1, li a2, li a3] [vi 0] s (qi F)
            replace H := H.2 h
            refine w_if_eq rfl (fun _ => ?_) (fun h => absurd h (by decide))
            refine w_iconst (n := 0) rfl rfl ?_
            exact wp_ls (sl_s (sl_s (sl_s (sl_s (sl_0))))) H
        · replace H := H.2 h
          refine w_iload_n rfl rfl ?_
          refine w_bipush (n := 10) rfl rfl rfl ?_
          refine w_icmp_ne rfl (fun h => ?_) (fun h => ?_)
          · replace H := H.1 h
            refine w_iload_n rfl rfl ?_
            refine w_bipush (n := 8) rfl rfl rfl ?_
            refine w_icmp_eq rfl (fun h => ?_) (fun h => ?_)
            · replace H := H.1 h
              refine w_aload_n rfl rfl ?_
              refine w_iload_n rfl rfl ?_
              obtain ⟨g5, H⟩ := H
              refine m_call (as := [vi a3]) (r := []) rfl rfl rfl rfl rfl rfl (m_isKind g5 (fun h => ?_) (fun h => ?_))
              · show wm iv L h0 (d + 2) 107 68 [lr 307, li a1, li a2, li a3] [vi 1] s (qi F)
                replace H := H.1 h
                refine w_if_eq rfl (fun h => absurd h (by decide)) (fun _ => ?_)
                refine w_iconst (n := 1) rfl rfl ?_
                refine w_goto rfl ?_
                exact wp_ls (sl_s (sl_s (sl_s (sl_s (sl_0))))) H
              · show wm iv L h0 (d + 2) 107 68 [lr 307, li a1, li a2, li a3] [vi 0] s (qi F)
                replace H := H.2 h
                refine w_if_eq rfl (fun _ => ?_) (fun h => absurd h (by decide))
                refine w_iconst (n := 0) rfl rfl ?_
                exact wp_ls (sl_s (sl_s (sl_s (sl_s (sl_0))))) H
            · replace H := H.2 h
              refine w_iload_n rfl rfl ?_
              refine w_bipush (n := 15) rfl rfl rfl ?_
              refine w_icmp_ne rfl (fun h => ?_) (fun h => ?_)
              · replace H := H.1 h
                refine w_iconst (n := 1) rfl rfl ?_
                refine w_goto rfl ?_
                exact wp_ls (sl_s (sl_s (sl_s (sl_s (sl_0))))) H
              · replace H := H.2 h
                refine w_aload_n rfl rfl ?_
                refine w_iload_n rfl rfl ?_
                obtain ⟨g6, H⟩ := H
                refine m_call (as := [vi a3]) (r := []) rfl rfl rfl rfl rfl rfl (m_isKind g6 (fun h => ?_) (fun h => ?_))
                · show wm iv L h0 (d + 2) 107 68 [lr 307, li a1, li a2, li a3] [vi 1] s (qi F)
                  replace H := H.1 h
                  refine w_if_eq rfl (fun h => absurd h (by decide)) (fun _ => ?_)
                  refine w_iconst (n := 1) rfl rfl ?_
                  refine w_goto rfl ?_
                  exact wp_ls (sl_s (sl_s (sl_s (sl_s (sl_0))))) H
                · show wm iv L h0 (d + 2) 107 68 [lr 307, li a1, li a2, li a3] [vi 0] s (qi F)
                  replace H := H.2 h
                  refine w_if_eq rfl (fun _ => ?_) (fun h => absurd h (by decide))
                  refine w_iconst (n := 0) rfl rfl ?_
                  exact wp_ls (sl_s (sl_s (sl_s (sl_s (sl_0))))) H
          · replace H := H.2 h
            refine w_iload_n rfl rfl ?_
            refine w_iconst (n := 0) rfl rfl ?_
            refine w_bipush (n := 25) rfl rfl rfl ?_
            refine w_static (as := [vi a2, vi 0, vi 25]) (r := []) rfl rfl rfl rfl rfl (m_in (fun h => ?_) (fun h => ?_))
            · show wm iv L h0 (d + 2) 107 48 [lr 307, li a1, li a2, li a3] [vi 1] s (qi F)
              replace H := H.1 h
              refine w_if_eq rfl (fun h => absurd h (by decide)) (fun _ => ?_)
              refine w_iload_n rfl rfl ?_
              refine w_bipush (n := 8) rfl rfl rfl ?_
              refine w_icmp_eq rfl (fun h => ?_) (fun h => ?_)
              · replace H := H.1 h
                refine w_aload_n rfl rfl ?_
                refine w_iload_n rfl rfl ?_
                obtain ⟨g7, H⟩ := H
                refine m_call (as := [vi a3]) (r := []) rfl rfl rfl rfl rfl rfl (m_isKind g7 (fun h => ?_) (fun h => ?_))
                · show wm iv L h0 (d + 2) 107 68 [lr 307, li a1, li a2, li a3] [vi 1] s (qi F)
                  replace H := H.1 h
                  refine w_if_eq rfl (fun h => absurd h (by decide)) (fun _ => ?_)
                  refine w_iconst (n := 1) rfl rfl ?_
                  refine w_goto rfl ?_
                  exact wp_ls (sl_s (sl_s (sl_s (sl_s (sl_0))))) H
                · show wm iv L h0 (d + 2) 107 68 [lr 307, li a1, li a2, li a3] [vi 0] s (qi F)
                  replace H := H.2 h
                  refine w_if_eq rfl (fun _ => ?_) (fun h => absurd h (by decide))
                  refine w_iconst (n := 0) rfl rfl ?_
                  exact wp_ls (sl_s (sl_s (sl_s (sl_s (sl_0))))) H
              · replace H := H.2 h
                refine w_iload_n rfl rfl ?_
                refine w_bipush (n := 15) rfl rfl rfl ?_
                refine w_icmp_ne rfl (fun h => ?_) (fun h => ?_)
                · replace H := H.1 h
                  refine w_iconst (n := 1) rfl rfl ?_
                  refine w_goto rfl ?_
                  exact wp_ls (sl_s (sl_s (sl_s (sl_s (sl_0))))) H
                · replace H := H.2 h
                  refine w_aload_n rfl rfl ?_
                  refine w_iload_n rfl rfl ?_
                  obtain ⟨g8, H⟩ := H
                  refine m_call (as := [vi a3]) (r := []) rfl rfl rfl rfl rfl rfl (m_isKind g8 (fun h => ?_) (fun h => ?_))
                  · show wm iv L h0 (d + 2) 107 68 [lr 307, li a1, li a2, li a3] [vi 1] s (qi F)
                    replace H := H.1 h
                    refine w_if_eq rfl (fun h => absurd h (by decide)) (fun _ => ?_)
                    refine w_iconst (n := 1) rfl rfl ?_
                    refine w_goto rfl ?_
                    exact wp_ls (sl_s (sl_s (sl_s (sl_s (sl_0))))) H
                  · show wm iv L h0 (d + 2) 107 68 [lr 307, li a1, li a2, li a3] [vi 0] s (qi F)
                    replace H := H.2 h
                    refine w_if_eq rfl (fun _ => ?_) (fun h => absurd h (by decide))
                    refine w_iconst (n := 0) rfl rfl ?_
                    exact wp_ls (sl_s (sl_s (sl_s (sl_s (sl_0))))) H
            · show wm iv L h0 (d + 2) 107 48 [lr 307, li a1, li a2, li a3] [vi 0] s (qi F)
              replace H := H.2 h
              refine w_if_eq rfl (fun _ => ?_) (fun h => absurd h (by decide))
              refine w_iconst (n := 0) rfl rfl ?_
              exact wp_ls (sl_s (sl_s (sl_s (sl_s (sl_0))))) H
    · replace H := H.2 h
      refine w_iload_n rfl rfl ?_
      refine w_iconst (n := 0) rfl rfl ?_
      refine w_iconst (n := 1) rfl rfl ?_
      refine w_static (as := [vi a2, vi 0, vi 1]) (r := []) rfl rfl rfl rfl rfl (m_in (fun h => ?_) (fun h => ?_))
      · show wm iv L h0 (d + 2) 107 21 [lr 307, li a1, li a2, li a3] [vi 1] s (qi F)
        replace H := H.1 h
        refine w_if_eq rfl (fun h => absurd h (by decide)) (fun _ => ?_)
        refine w_iload_n rfl rfl ?_
        refine w_iconst (n := 3) rfl rfl ?_
        refine w_icmp_eq rfl (fun h => ?_) (fun h => ?_)
        · replace H := H.1 h
          refine w_iload_n rfl rfl ?_
          refine w_iconst (n := 0) rfl rfl ?_
          refine w_bipush (n := 25) rfl rfl rfl ?_
          refine w_static (as := [vi a2, vi 0, vi 25]) (r := []) rfl rfl rfl rfl rfl (m_in (fun h => ?_) (fun h => ?_))
          · show wm iv L h0 (d + 2) 107 48 [lr 307, li a1, li a2, li a3] [vi 1] s (qi F)
            replace H := H.1 h
            refine w_if_eq rfl (fun h => absurd h (by decide)) (fun _ => ?_)
            refine w_iload_n rfl rfl ?_
            refine w_bipush (n := 8) rfl rfl rfl ?_
            refine w_icmp_eq rfl (fun h => ?_) (fun h => ?_)
            · replace H := H.1 h
              refine w_aload_n rfl rfl ?_
              refine w_iload_n rfl rfl ?_
              obtain ⟨g9, H⟩ := H
              refine m_call (as := [vi a3]) (r := []) rfl rfl rfl rfl rfl rfl (m_isKind g9 (fun h => ?_) (fun h => ?_))
              · show wm iv L h0 (d + 2) 107 68 [lr 307, li a1, li a2, li a3] [vi 1] s (qi F)
                replace H := H.1 h
                refine w_if_eq rfl (fun h => absurd h (by decide)) (fun _ => ?_)
                refine w_iconst (n := 1) rfl rfl ?_
                refine w_goto rfl ?_
                exact wp_ls (sl_s (sl_s (sl_s (sl_s (sl_0))))) H
              · show wm iv L h0 (d + 2) 107 68 [lr 307, li a1, li a2, li a3] [vi 0] s (qi F)
                replace H := H.2 h
                refine w_if_eq rfl (fun _ => ?_) (fun h => absurd h (by decide))
                refine w_iconst (n := 0) rfl rfl ?_
                exact wp_ls (sl_s (sl_s (sl_s (sl_s (sl_0))))) H
            · replace H := H.2 h
              refine w_iload_n rfl rfl ?_
              refine w_bipush (n := 15) rfl rfl rfl ?_
              refine w_icmp_ne rfl (fun h => ?_) (fun h => ?_)
              · replace H := H.1 h
                refine w_iconst (n := 1) rfl rfl ?_
                refine w_goto rfl ?_
                exact wp_ls (sl_s (sl_s (sl_s (sl_s (sl_0))))) H
              · replace H := H.2 h
                refine w_aload_n rfl rfl ?_
                refine w_iload_n rfl rfl ?_
                obtain ⟨g10, H⟩ := H
                refine m_call (as := [vi a3]) (r := []) rfl rfl rfl rfl rfl rfl (m_isKind g10 (fun h => ?_) (fun h => ?_))
                · show wm iv L h0 (d + 2) 107 68 [lr 307, li a1, li a2, li a3] [vi 1] s (qi F)
                  replace H := H.1 h
                  refine w_if_eq rfl (fun h => absurd h (by decide)) (fun _ => ?_)
                  refine w_iconst (n := 1) rfl rfl ?_
                  refine w_goto rfl ?_
                  exact wp_ls (sl_s (sl_s (sl_s (sl_s (sl_0))))) H
                · show wm iv L h0 (d + 2) 107 68 [lr 307, li a1, li a2, li a3] [vi 0] s (qi F)
                  replace H := H.2 h
                  refine w_if_eq rfl (fun _ => ?_) (fun h => absurd h (by decide))
                  refine w_iconst (n := 0) rfl rfl ?_
                  exact wp_ls (sl_s (sl_s (sl_s (sl_s (sl_0))))) H
          · show wm iv L h0 (d + 2) 107 48 [lr 307, li a1, li a2, li a3] [vi 0] s (qi F)
            replace H := H.2 h
            refine w_if_eq rfl (fun _ => ?_) (fun h => absurd h (by decide))
            refine w_iconst (n := 0) rfl rfl ?_
            exact wp_ls (sl_s (sl_s (sl_s (sl_s (sl_0))))) H
        · replace H := H.2 h
          refine w_iload_n rfl rfl ?_
          refine w_bipush (n := 8) rfl rfl rfl ?_
          refine w_icmp_eq rfl (fun h => ?_) (fun h => ?_)
          · replace H := H.1 h
            refine w_iload_n rfl rfl ?_
            refine w_iconst (n := 0) rfl rfl ?_
            refine w_bipush (n := 25) rfl rfl rfl ?_
            refine w_static (as := [vi a2, vi 0, vi 25]) (r := []) rfl rfl rfl rfl rfl (m_in (fun h => ?_) (fun h => ?_))
            · show wm iv L h0 (d + 2) 107 48 [lr 307, li a1, li a2, li a3] [vi 1] s (qi F)
              replace H := H.1 h
              refine w_if_eq rfl (fun h => absurd h (by decide)) (fun _ => ?_)
              refine w_iload_n rfl rfl ?_
              refine w_bipush (n := 8) rfl rfl rfl ?_
              refine w_icmp_eq rfl (fun h => ?_) (fun h => ?_)
              · replace H := H.1 h
                refine w_aload_n rfl rfl ?_
                refine w_iload_n rfl rfl ?_
                obtain ⟨g11, H⟩ := H
                refine m_call (as := [vi a3]) (r := []) rfl rfl rfl rfl rfl rfl (m_isKind g11 (fun h => ?_) (fun h => ?_))
                · show wm iv L h0 (d + 2) 107 68 [lr 307, li a1, li a2, li a3] [vi 1] s (qi F)
                  replace H := H.1 h
                  refine w_if_eq rfl (fun h => absurd h (by decide)) (fun _ => ?_)
                  refine w_iconst (n := 1) rfl rfl ?_
                  refine w_goto rfl ?_
                  exact wp_ls (sl_s (sl_s (sl_s (sl_s (sl_0))))) H
                · show wm iv L h0 (d + 2) 107 68 [lr 307, li a1, li a2, li a3] [vi 0] s (qi F)
                  replace H := H.2 h
                  refine w_if_eq rfl (fun _ => ?_) (fun h => absurd h (by decide))
                  refine w_iconst (n := 0) rfl rfl ?_
                  exact wp_ls (sl_s (sl_s (sl_s (sl_s (sl_0))))) H
              · replace H := H.2 h
                refine w_iload_n rfl rfl ?_
                refine w_bipush (n := 15) rfl rfl rfl ?_
                refine w_icmp_ne rfl (fun h => ?_) (fun h => ?_)
                · replace H := H.1 h
                  refine w_iconst (n := 1) rfl rfl ?_
                  refine w_goto rfl ?_
                  exact wp_ls (sl_s (sl_s (sl_s (sl_s (sl_0))))) H
                · replace H := H.2 h
                  refine w_aload_n rfl rfl ?_
                  refine w_iload_n rfl rfl ?_
                  obtain ⟨g12, H⟩ := H
                  refine m_call (as := [vi a3]) (r := []) rfl rfl rfl rfl rfl rfl (m_isKind g12 (fun h => ?_) (fun h => ?_))
                  · show wm iv L h0 (d + 2) 107 68 [lr 307, li a1, li a2, li a3] [vi 1] s (qi F)
                    replace H := H.1 h
                    refine w_if_eq rfl (fun h => absurd h (by decide)) (fun _ => ?_)
                    refine w_iconst (n := 1) rfl rfl ?_
                    refine w_goto rfl ?_
                    exact wp_ls (sl_s (sl_s (sl_s (sl_s (sl_0))))) H
                  · show wm iv L h0 (d + 2) 107 68 [lr 307, li a1, li a2, li a3] [vi 0] s (qi F)
                    replace H := H.2 h
                    refine w_if_eq rfl (fun _ => ?_) (fun h => absurd h (by decide))
                    refine w_iconst (n := 0) rfl rfl ?_
                    exact wp_ls (sl_s (sl_s (sl_s (sl_s (sl_0))))) H
            · show wm iv L h0 (d + 2) 107 48 [lr 307, li a1, li a2, li a3] [vi 0] s (qi F)
              replace H := H.2 h
              refine w_if_eq rfl (fun _ => ?_) (fun h => absurd h (by decide))
              refine w_iconst (n := 0) rfl rfl ?_
              exact wp_ls (sl_s (sl_s (sl_s (sl_s (sl_0))))) H
          · replace H := H.2 h
            refine w_iload_n rfl rfl ?_
            refine w_bipush (n := 10) rfl rfl rfl ?_
            refine w_icmp_ne rfl (fun h => ?_) (fun h => ?_)
            · replace H := H.1 h
              refine w_iload_n rfl rfl ?_
              refine w_bipush (n := 8) rfl rfl rfl ?_
              refine w_icmp_eq rfl (fun h => ?_) (fun h => ?_)
              · replace H := H.1 h
                refine w_aload_n rfl rfl ?_
                refine w_iload_n rfl rfl ?_
                obtain ⟨g13, H⟩ := H
                refine m_call (as := [vi a3]) (r := []) rfl rfl rfl rfl rfl rfl (m_isKind g13 (fun h => ?_) (fun h => ?_))
                · show wm iv L h0 (d + 2) 107 68 [lr 307, li a1, li a2, li a3] [vi 1] s (qi F)
                  replace H := H.1 h
                  refine w_if_eq rfl (fun h => absurd h (by decide)) (fun _ => ?_)
                  refine w_iconst (n := 1) rfl rfl ?_
                  refine w_goto rfl ?_
                  exact wp_ls (sl_s (sl_s (sl_s (sl_s (sl_0))))) H
                · show wm iv L h0 (d + 2) 107 68 [lr 307, li a1, li a2, li a3] [vi 0] s (qi F)
                  replace H := H.2 h
                  refine w_if_eq rfl (fun _ => ?_) (fun h => absurd h (by decide))
                  refine w_iconst (n := 0) rfl rfl ?_
                  exact wp_ls (sl_s (sl_s (sl_s (sl_s (sl_0))))) H
              · replace H := H.2 h
                refine w_iload_n rfl rfl ?_
                refine w_bipush (n := 15) rfl rfl rfl ?_
                refine w_icmp_ne rfl (fun h => ?_) (fun h => ?_)
                · replace H := H.1 h
                  refine w_iconst (n := 1) rfl rfl ?_
                  refine w_goto rfl ?_
                  exact wp_ls (sl_s (sl_s (sl_s (sl_s (sl_0))))) H
                · replace H := H.2 h
                  refine w_aload_n rfl rfl ?_
                  refine w_iload_n rfl rfl ?_
                  obtain ⟨g14, H⟩ := H
                  refine m_call (as := [vi a3]) (r := []) rfl rfl rfl rfl rfl rfl (m_isKind g14 (fun h => ?_) (fun h => ?_))
                  · show wm iv L h0 (d + 2) 107 68 [lr 307, li a1, li a2, li a3] [vi 1] s (qi F)
                    replace H := H.1 h
                    refine w_if_eq rfl (fun h => absurd h (by decide)) (fun _ => ?_)
                    refine w_iconst (n := 1) rfl rfl ?_
                    refine w_goto rfl ?_
                    exact wp_ls (sl_s (sl_s (sl_s (sl_s (sl_0))))) H
                  · show wm iv L h0 (d + 2) 107 68 [lr 307, li a1, li a2, li a3] [vi 0] s (qi F)
                    replace H := H.2 h
                    refine w_if_eq rfl (fun _ => ?_) (fun h => absurd h (by decide))
                    refine w_iconst (n := 0) rfl rfl ?_
                    exact wp_ls (sl_s (sl_s (sl_s (sl_s (sl_0))))) H
            · replace H := H.2 h
              refine w_iload_n rfl rfl ?_
              refine w_iconst (n := 0) rfl rfl ?_
              refine w_bipush (n := 25) rfl rfl rfl ?_
              refine w_static (as := [vi a2, vi 0, vi 25]) (r := []) rfl rfl rfl rfl rfl (m_in (fun h => ?_) (fun h => ?_))
              · show wm iv L h0 (d + 2) 107 48 [lr 307, li a1, li a2, li a3] [vi 1] s (qi F)
                replace H := H.1 h
                refine w_if_eq rfl (fun h => absurd h (by decide)) (fun _ => ?_)
                refine w_iload_n rfl rfl ?_
                refine w_bipush (n := 8) rfl rfl rfl ?_
                refine w_icmp_eq rfl (fun h => ?_) (fun h => ?_)
                · replace H := H.1 h
                  refine w_aload_n rfl rfl ?_
                  refine w_iload_n rfl rfl ?_
                  obtain ⟨g15, H⟩ := H
                  refine m_call (as := [vi a3]) (r := []) rfl rfl rfl rfl rfl rfl (m_isKind g15 (fun h => ?_) (fun h => ?_))
                  · show wm iv L h0 (d + 2) 107 68 [lr 307, li a1, li a2, li a3] [vi 1] s (qi F)
                    replace H := H.1 h
                    refine w_if_eq rfl (fun h => absurd h (by decide)) (fun _ => ?_)
                    refine w_iconst (n := 1) rfl rfl ?_
                    refine w_goto rfl ?_
                    exact wp_ls (sl_s (sl_s (sl_s (sl_s (sl_0))))) H
                  · show wm iv L h0 (d + 2) 107 68 [lr 307, li a1, li a2, li a3] [vi 0] s (qi F)
                    replace H := H.2 h
                    refine w_if_eq rfl (fun _ => ?_) (fun h => absurd h (by decide))
                    refine w_iconst (n := 0) rfl rfl ?_
                    exact wp_ls (sl_s (sl_s (sl_s (sl_s (sl_0))))) H
                · replace H := H.2 h
                  refine w_iload_n rfl rfl ?_
                  refine w_bipush (n := 15) rfl rfl rfl ?_
                  refine w_icmp_ne rfl (fun h => ?_) (fun h => ?_)
                  · replace H := H.1 h
                    refine w_iconst (n := 1) rfl rfl ?_
                    refine w_goto rfl ?_
                    exact wp_ls (sl_s (sl_s (sl_s (sl_s (sl_0))))) H
                  · replace H := H.2 h
                    refine w_aload_n rfl rfl ?_
                    refine w_iload_n rfl rfl ?_
                    obtain ⟨g16, H⟩ := H
                    refine m_call (as := [vi a3]) (r := []) rfl rfl rfl rfl rfl rfl (m_isKind g16 (fun h => ?_) (fun h => ?_))
                    · show wm iv L h0 (d + 2) 107 68 [lr 307, li a1, li a2, li a3] [vi 1] s (qi F)
                      replace H := H.1 h
                      refine w_if_eq rfl (fun h => absurd h (by decide)) (fun _ => ?_)
                      refine w_iconst (n := 1) rfl rfl ?_
                      refine w_goto rfl ?_
                      exact wp_ls (sl_s (sl_s (sl_s (sl_s (sl_0))))) H
                    · show wm iv L h0 (d + 2) 107 68 [lr 307, li a1, li a2, li a3] [vi 0] s (qi F)
                      replace H := H.2 h
                      refine w_if_eq rfl (fun _ => ?_) (fun h => absurd h (by decide))
                      refine w_iconst (n := 0) rfl rfl ?_
                      exact wp_ls (sl_s (sl_s (sl_s (sl_s (sl_0))))) H
              · show wm iv L h0 (d + 2) 107 48 [lr 307, li a1, li a2, li a3] [vi 0] s (qi F)
                replace H := H.2 h
                refine w_if_eq rfl (fun _ => ?_) (fun h => absurd h (by decide))
                refine w_iconst (n := 0) rfl rfl ?_
                exact wp_ls (sl_s (sl_s (sl_s (sl_s (sl_0))))) H
      · show wm iv L h0 (d + 2) 107 21 [lr 307, li a1, li a2, li a3] [vi 0] s (qi F)
        replace H := H.2 h
        refine w_if_eq rfl (fun _ => ?_) (fun h => absurd h (by decide))
        refine w_iconst (n := 0) rfl rfl ?_
        exact wp_ls (sl_s (sl_s (sl_s (sl_s (sl_0))))) H
  · show wm iv L h0 (d + 2) 107 7 [lr 307, li a1, li a2, li a3] [vi 0] s (qi F)
    replace H := H.2 h
    refine w_if_eq rfl (fun _ => ?_) (fun h => absurd h (by decide))
    refine w_iconst (n := 0) rfl rfl ?_
    exact wp_ls (sl_s (sl_s (sl_s (sl_s (sl_0))))) H

/-- HoleDeskModel.put(III)I at 76 -/
theorem B107_76 {iv : List (Int × Int)} {L : Nat} {h0 : MH} {d : Nat} {s : SM} {l1 : Int} {l2 : Int} {l3 : Int} {t0 : Int} {F : Int → SM → Prop} (H : ((t0 ≠ 0 → (0 ≤ s.1 16 ∧ s.1 16 < 3004) ∧ ((s.2 9 (s.1 16) ≠ 0 → (0 ≤ l1 ∧ l1 < 16) ∧ ((l1 = 0 → F (-4) s) ∧ (l1 ≠ 0 → ((pO l1 ≠ 0 → cm iv L h0 (d + 1) 82 [vr 307] s (qi fun r4 s3 => (-2147483648 ≤ r4 + (pO l1) ∧ r4 + (pO l1) ≤ 2147483647) ∧ (-2147483648 ≤ (r4 + (pO l1)) - 0 ∧ (r4 + (pO l1)) - 0 ≤ 2147483647) ∧ ((60 < (r4 + (pO l1)) - 0 → F (-2) s3) ∧ ((r4 + (pO l1)) - 0 ≤ 60 → (-2147483648 ≤ (s3.1 8) + (pO l1) ∧ (s3.1 8) + (pO l1) ≤ 2147483647) ∧ (((s3.1 8) + (pO l1) ≤ 3000 → cm iv L h0 (d + 1) 99 [vr 307] s3 (qv fun s8 => cm iv L h0 (d + 1) 74 [vr 307, vi l1, vi l2, vi l3] s8 (qi fun r10 s9 => cm iv L h0 (d + 1) 77 [vr 307, vi (s8.1 16), vi r10] s9 (qv fun s11 => wm iv L h0 (d + 2) 107 212 [lr 307, ln, ln, ln, ln, li 0, li (pO l1), ln, li (s8.1 16), li r10, li 0] [] s11 (qi F))))) ∧ (3000 < (s3.1 8) + (pO l1) → F (-2) s3)))))) ∧ (pO l1 = 0 → F (-4) s))))) ∧ (s.2 9 (s.1 16) = 0 → (0 ≤ l1 ∧ l1 < 16) ∧ ((l1 = 0 → F (-4) s) ∧ (l1 ≠ 0 → ((pO l1 ≠ 0 → (-2147483648 ≤ 1 + (pO l1) ∧ 1 + (pO l1) ≤ 2147483647) ∧ cm iv L h0 (d + 1) 82 [vr 307] s (qi fun r15 s14 => (-2147483648 ≤ r15 + (1 + (pO l1)) ∧ r15 + (1 + (pO l1)) ≤ 2147483647) ∧ (-2147483648 ≤ (r15 + (1 + (pO l1))) - 1 ∧ (r15 + (1 + (pO l1))) - 1 ≤ 2147483647) ∧ ((60 < (r15 + (1 + (pO l1))) - 1 → F (-2) s14) ∧ ((r15 + (1 + (pO l1))) - 1 ≤ 60 → (-2147483648 ≤ (s14.1 8) + (1 + (pO l1)) ∧ (s14.1 8) + (1 + (pO l1)) ≤ 2147483647) ∧ (((s14.1 8) + (1 + (pO l1)) ≤ 3000 → cm iv L h0 (d + 1) 99 [vr 307] s14 (qv fun s19 => cm iv L h0 (d + 1) 74 [vr 307, vi l1, vi l2, vi l3] s19 (qi fun r21 s20 => cm iv L h0 (d + 1) 77 [vr 307, vi (s19.1 16), vi r21] s20 (qv fun s22 => wm iv L h0 (d + 2) 107 212 [lr 307, ln, ln, ln, ln, li 1, li (pO l1), ln, li (s19.1 16), li r21, li 0] [] s22 (qi F))))) ∧ (3000 < (s14.1 8) + (1 + (pO l1)) → F (-2) s14)))))) ∧ (pO l1 = 0 → (-2147483648 ≤ 1 + (pO l1) ∧ 1 + (pO l1) ≤ 2147483647) ∧ cm iv L h0 (d + 1) 82 [vr 307] s (qi fun r25 s24 => (-2147483648 ≤ r25 + (1 + (pO l1)) ∧ r25 + (1 + (pO l1)) ≤ 2147483647) ∧ (-2147483648 ≤ (r25 + (1 + (pO l1))) - 1 ∧ (r25 + (1 + (pO l1))) - 1 ≤ 2147483647) ∧ ((60 < (r25 + (1 + (pO l1))) - 1 → F (-2) s24) ∧ ((r25 + (1 + (pO l1))) - 1 ≤ 60 → (-2147483648 ≤ (s24.1 8) + (1 + (pO l1)) ∧ (s24.1 8) + (1 + (pO l1)) ≤ 2147483647) ∧ (((s24.1 8) + (1 + (pO l1)) ≤ 3000 → cm iv L h0 (d + 1) 99 [vr 307] s24 (qv fun s29 => cm iv L h0 (d + 1) 74 [vr 307, vi l1, vi l2, vi l3] s29 (qi fun r31 s30 => cm iv L h0 (d + 1) 77 [vr 307, vi (s29.1 16), vi r31] s30 (qv fun s32 => wm iv L h0 (d + 2) 107 212 [lr 307, ln, ln, ln, ln, li 1, li (pO l1), ln, li (s29.1 16), li r31, li 0] [] s32 (qi F))))) ∧ (3000 < (s24.1 8) + (1 + (pO l1)) → F (-2) s24)))))))))))) ∧ (t0 = 0 → F (-1) s))) : wm iv L h0 (d + 2) 107 76 [lr 307, li l1, li l2, li l3] [vi t0] s (qi F) := by
  refine w_istore rfl rfl ?_
  refine w_iload rfl rfl ?_
  refine w_if_ne rfl (fun h => ?_) (fun h => ?_)
  · replace H := H.1 h
    refine w_aload_n rfl rfl ?_
    refine m_geta (t := 0) (k := 3004) rfl rfl ?_
    refine w_aload_n rfl rfl ?_
    refine m_get rfl rfl ?_
    obtain ⟨g1, H⟩ := H
    refine m_ald rfl (f := 9) (k := 3004) rfl g1 ?_
    refine w_if_ne rfl (fun h => ?_) (fun h => ?_)
    · replace H := H.1 h
      refine w_iconst (n := 0) rfl rfl ?_
      refine w_istore rfl rfl ?_
      refine w_iload_n rfl rfl ?_
      obtain ⟨g2, H⟩ := H
      refine w_static (as := [vi l1]) (r := []) rfl rfl rfl rfl rfl (m_parts g2 ?_)
      show wm iv L h0 (d + 2) 107 108 [lr 307, li l1, li l2, li l3, li t0, li 0] [vi (pO l1)] s (qi F)
      refine w_istore rfl rfl ?_
      refine w_iload_n rfl rfl ?_
      refine w_if_eq rfl (fun h => ?_) (fun h => ?_)
      · replace H := H.1 h
        refine w_bipush (n := (-4)) rfl rfl rfl ?_
        exact w_iret rfl rfl ⟨_, rfl, H⟩
      · replace H := H.2 h
        refine w_iload rfl rfl ?_
        refine w_if_ne rfl (fun h => ?_) (fun h => ?_)
        · replace H := H.1 h
          refine w_iload rfl rfl ?_
          refine w_if_eq rfl (fun _ => ?_) (fun h => absurd h (by decide))
          refine w_iload rfl rfl ?_
          refine w_istore rfl rfl ?_
          refine w_aload_n rfl rfl ?_
          refine m_call (as := []) (r := []) rfl rfl rfl rfl rfl rfl (wc_mono H (Nat.le_refl _) ?_)
          rintro _ s3 ⟨r4, rfl, H⟩
          show wm iv L h0 (d + 2) 107 147 [lr 307, li l1, li l2, li l3, li t0, li 0, li (pO l1), li (pO l1)] [vi r4] s3 (qi F)
          refine w_iload rfl rfl ?_
          obtain ⟨g5, H⟩ := H
          refine w_iadd rfl g5 ?_
          refine w_iload rfl rfl ?_
          refine w_if_eq rfl (fun _ => ?_) (fun h => absurd h (by decide))
          refine w_iconst (n := 0) rfl rfl ?_
          obtain ⟨g6, H⟩ := H
          refine w_isub rfl g6 ?_
          refine w_bipush (n := 60) rfl rfl rfl ?_
          refine w_icmp_gt rfl (fun h => ?_) (fun h => ?_)
          · replace H := H.1 h
            refine w_bipush (n := (-2)) rfl rfl rfl ?_
            exact w_iret rfl rfl ⟨_, rfl, H⟩
          · replace H := H.2 h
            refine w_aload_n rfl rfl ?_
            refine m_get rfl rfl ?_
            refine w_iload rfl rfl ?_
            obtain ⟨g7, H⟩ := H
            refine w_iadd rfl g7 ?_
            refine w_sipush (n := 3000) rfl rfl rfl ?_
            refine w_icmp_le rfl (fun h => ?_) (fun h => ?_)
            · replace H := H.1 h
              refine w_aload_n rfl rfl ?_
              refine m_call (as := []) (r := []) rfl rfl rfl rfl rfl rfl (wc_mono H (Nat.le_refl _) ?_)
              rintro _ s8 ⟨rfl, H⟩
              show wm iv L h0 (d + 2) 107 186 [lr 307, li l1, li l2, li l3, li t0, li 0, li (pO l1), li (pO l1)] [] s8 (qi F)
              refine w_aload_n rfl rfl ?_
              refine m_get rfl rfl ?_
              refine w_istore rfl rfl ?_
              refine w_aload_n rfl rfl ?_
              refine w_iload_n rfl rfl ?_
              refine w_iload_n rfl rfl ?_
              refine w_iload_n rfl rfl ?_
              refine m_call (as := [vi l1, vi l2, vi l3]) (r := []) rfl rfl rfl rfl rfl rfl (wc_mono H (Nat.le_refl _) ?_)
              rintro _ s9 ⟨r10, rfl, H⟩
              show wm iv L h0 (d + 2) 107 199 [lr 307, li l1, li l2, li l3, li t0, li 0, li (pO l1), li (pO l1), li (s8.1 16)] [vi r10] s9 (qi F)
              refine w_istore rfl rfl ?_
              refine w_aload_n rfl rfl ?_
              refine w_iload rfl rfl ?_
              refine w_iload rfl rfl ?_
              refine m_call (as := [vi (s8.1 16), vi r10]) (r := []) rfl rfl rfl rfl rfl rfl (wc_mono H (Nat.le_refl _) ?_)
              rintro _ s11 ⟨rfl, H⟩
              show wm iv L h0 (d + 2) 107 209 [lr 307, li l1, li l2, li l3, li t0, li 0, li (pO l1), li (pO l1), li (s8.1 16), li r10] [] s11 (qi F)
              refine w_iconst (n := 0) rfl rfl ?_
              refine w_istore rfl rfl ?_
              exact wp_ls (sl_s (sl_n (sl_n (sl_n (sl_n (sl_s (sl_s (sl_n (sl_s (sl_s (sl_s (sl_0)))))))))))) H
            · replace H := H.2 h
              refine w_bipush (n := (-2)) rfl rfl rfl ?_
              exact w_iret rfl rfl ⟨_, rfl, H⟩
        · replace H := H.2 h
          refine w_iload rfl rfl ?_
          refine w_if_ne rfl (fun h => absurd h (by decide)) (fun _ => ?_)
          refine w_bipush (n := (-4)) rfl rfl rfl ?_
          exact w_iret rfl rfl ⟨_, rfl, H⟩
    · replace H := H.2 h
      refine w_iconst (n := 1) rfl rfl ?_
      refine w_goto rfl ?_
      refine w_istore rfl rfl ?_
      refine w_iload_n rfl rfl ?_
      obtain ⟨g12, H⟩ := H
      refine w_static (as := [vi l1]) (r := []) rfl rfl rfl rfl rfl (m_parts g12 ?_)
      show wm iv L h0 (d + 2) 107 108 [lr 307, li l1, li l2, li l3, li t0, li 1] [vi (pO l1)] s (qi F)
      refine w_istore rfl rfl ?_
      refine w_iload_n rfl rfl ?_
      refine w_if_eq rfl (fun h => ?_) (fun h => ?_)
      · replace H := H.1 h
        refine w_bipush (n := (-4)) rfl rfl rfl ?_
        exact w_iret rfl rfl ⟨_, rfl, H⟩
      · replace H := H.2 h
        refine w_iload rfl rfl ?_
        refine w_if_ne rfl (fun h => ?_) (fun h => ?_)
        · replace H := H.1 h
          refine w_iload rfl rfl ?_
          refine w_if_eq rfl (fun h => absurd h (by decide)) (fun _ => ?_)
          refine w_iconst (n := 1) rfl rfl ?_
          refine w_iload rfl rfl ?_
          obtain ⟨g13, H⟩ := H
          refine w_iadd rfl g13 ?_
          refine w_goto rfl ?_
          refine w_istore rfl rfl ?_
          refine w_aload_n rfl rfl ?_
          refine m_call (as := []) (r := []) rfl rfl rfl rfl rfl rfl (wc_mono H (Nat.le_refl _) ?_)
          rintro _ s14 ⟨r15, rfl, H⟩
          show wm iv L h0 (d + 2) 107 147 [lr 307, li l1, li l2, li l3, li t0, li 1, li (pO l1), li (1 + (pO l1))] [vi r15] s14 (qi F)
          refine w_iload rfl rfl ?_
          obtain ⟨g16, H⟩ := H
          refine w_iadd rfl g16 ?_
          refine w_iload rfl rfl ?_
          refine w_if_eq rfl (fun h => absurd h (by decide)) (fun _ => ?_)
          refine w_iconst (n := 1) rfl rfl ?_
          refine w_goto rfl ?_
          obtain ⟨g17, H⟩ := H
          refine w_isub rfl g17 ?_
          refine w_bipush (n := 60) rfl rfl rfl ?_
          refine w_icmp_gt rfl (fun h => ?_) (fun h => ?_)
          · replace H := H.1 h
            refine w_bipush (n := (-2)) rfl rfl rfl ?_
            exact w_iret rfl rfl ⟨_, rfl, H⟩
          · replace H := H.2 h
            refine w_aload_n rfl rfl ?_
            refine m_get rfl rfl ?_
            refine w_iload rfl rfl ?_
            obtain ⟨g18, H⟩ := H
            refine w_iadd rfl g18 ?_
            refine w_sipush (n := 3000) rfl rfl rfl ?_
            refine w_icmp_le rfl (fun h => ?_) (fun h => ?_)
            · replace H := H.1 h
              refine w_aload_n rfl rfl ?_
              refine m_call (as := []) (r := []) rfl rfl rfl rfl rfl rfl (wc_mono H (Nat.le_refl _) ?_)
              rintro _ s19 ⟨rfl, H⟩
              show wm iv L h0 (d + 2) 107 186 [lr 307, li l1, li l2, li l3, li t0, li 1, li (pO l1), li (1 + (pO l1))] [] s19 (qi F)
              refine w_aload_n rfl rfl ?_
              refine m_get rfl rfl ?_
              refine w_istore rfl rfl ?_
              refine w_aload_n rfl rfl ?_
              refine w_iload_n rfl rfl ?_
              refine w_iload_n rfl rfl ?_
              refine w_iload_n rfl rfl ?_
              refine m_call (as := [vi l1, vi l2, vi l3]) (r := []) rfl rfl rfl rfl rfl rfl (wc_mono H (Nat.le_refl _) ?_)
              rintro _ s20 ⟨r21, rfl, H⟩
              show wm iv L h0 (d + 2) 107 199 [lr 307, li l1, li l2, li l3, li t0, li 1, li (pO l1), li (1 + (pO l1)), li (s19.1 16)] [vi r21] s20 (qi F)
              refine w_istore rfl rfl ?_
              refine w_aload_n rfl rfl ?_
              refine w_iload rfl rfl ?_
              refine w_iload rfl rfl ?_
              refine m_call (as := [vi (s19.1 16), vi r21]) (r := []) rfl rfl rfl rfl rfl rfl (wc_mono H (Nat.le_refl _) ?_)
              rintro _ s22 ⟨rfl, H⟩
              show wm iv L h0 (d + 2) 107 209 [lr 307, li l1, li l2, li l3, li t0, li 1, li (pO l1), li (1 + (pO l1)), li (s19.1 16), li r21] [] s22 (qi F)
              refine w_iconst (n := 0) rfl rfl ?_
              refine w_istore rfl rfl ?_
              exact wp_ls (sl_s (sl_n (sl_n (sl_n (sl_n (sl_s (sl_s (sl_n (sl_s (sl_s (sl_s (sl_0)))))))))))) H
            · replace H := H.2 h
              refine w_bipush (n := (-2)) rfl rfl rfl ?_
              exact w_iret rfl rfl ⟨_, rfl, H⟩
        · replace H := H.2 h
          refine w_iload rfl rfl ?_
          refine w_if_ne rfl (fun _ => ?_) (fun h => absurd h (by decide))
          refine w_iload rfl rfl ?_
          refine w_if_eq rfl (fun h => absurd h (by decide)) (fun _ => ?_)
          refine w_iconst (n := 1) rfl rfl ?_
          refine w_iload rfl rfl ?_
          obtain ⟨g23, H⟩ := H
          refine w_iadd rfl g23 ?_
          refine w_goto rfl ?_
          refine w_istore rfl rfl ?_
          refine w_aload_n rfl rfl ?_
          refine m_call (as := []) (r := []) rfl rfl rfl rfl rfl rfl (wc_mono H (Nat.le_refl _) ?_)
          rintro _ s24 ⟨r25, rfl, H⟩
          show wm iv L h0 (d + 2) 107 147 [lr 307, li l1, li l2, li l3, li t0, li 1, li (pO l1), li (1 + (pO l1))] [vi r25] s24 (qi F)
          refine w_iload rfl rfl ?_
          obtain ⟨g26, H⟩ := H
          refine w_iadd rfl g26 ?_
          refine w_iload rfl rfl ?_
          refine w_if_eq rfl (fun h => absurd h (by decide)) (fun _ => ?_)
          refine w_iconst (n := 1) rfl rfl ?_
          refine w_goto rfl ?_
          obtain ⟨g27, H⟩ := H
          refine w_isub rfl g27 ?_
          refine w_bipush (n := 60) rfl rfl rfl ?_
          refine w_icmp_gt rfl (fun h => ?_) (fun h => ?_)
          · replace H := H.1 h
            refine w_bipush (n := (-2)) rfl rfl rfl ?_
            exact w_iret rfl rfl ⟨_, rfl, H⟩
          · replace H := H.2 h
            refine w_aload_n rfl rfl ?_
            refine m_get rfl rfl ?_
            refine w_iload rfl rfl ?_
            obtain ⟨g28, H⟩ := H
            refine w_iadd rfl g28 ?_
            refine w_sipush (n := 3000) rfl rfl rfl ?_
            refine w_icmp_le rfl (fun h => ?_) (fun h => ?_)
            · replace H := H.1 h
              refine w_aload_n rfl rfl ?_
              refine m_call (as := []) (r := []) rfl rfl rfl rfl rfl rfl (wc_mono H (Nat.le_refl _) ?_)
              rintro _ s29 ⟨rfl, H⟩
              show wm iv L h0 (d + 2) 107 186 [lr 307, li l1, li l2, li l3, li t0, li 1, li (pO l1), li (1 + (pO l1))] [] s29 (qi F)
              refine w_aload_n rfl rfl ?_
              refine m_get rfl rfl ?_
              refine w_istore rfl rfl ?_
              refine w_aload_n rfl rfl ?_
              refine w_iload_n rfl rfl ?_
              refine w_iload_n rfl rfl ?_
              refine w_iload_n rfl rfl ?_
              refine m_call (as := [vi l1, vi l2, vi l3]) (r := []) rfl rfl rfl rfl rfl rfl (wc_mono H (Nat.le_refl _) ?_)
              rintro _ s30 ⟨r31, rfl, H⟩
              show wm iv L h0 (d + 2) 107 199 [lr 307, li l1, li l2, li l3, li t0, li 1, li (pO l1), li (1 + (pO l1)), li (s29.1 16)] [vi r31] s30 (qi F)
              refine w_istore rfl rfl ?_
              refine w_aload_n rfl rfl ?_
              refine w_iload rfl rfl ?_
              refine w_iload rfl rfl ?_
              refine m_call (as := [vi (s29.1 16), vi r31]) (r := []) rfl rfl rfl rfl rfl rfl (wc_mono H (Nat.le_refl _) ?_)
              rintro _ s32 ⟨rfl, H⟩
              show wm iv L h0 (d + 2) 107 209 [lr 307, li l1, li l2, li l3, li t0, li 1, li (pO l1), li (1 + (pO l1)), li (s29.1 16), li r31] [] s32 (qi F)
              refine w_iconst (n := 0) rfl rfl ?_
              refine w_istore rfl rfl ?_
              exact wp_ls (sl_s (sl_n (sl_n (sl_n (sl_n (sl_s (sl_s (sl_n (sl_s (sl_s (sl_s (sl_0)))))))))))) H
            · replace H := H.2 h
              refine w_bipush (n := (-2)) rfl rfl rfl ?_
              exact w_iret rfl rfl ⟨_, rfl, H⟩
  · replace H := H.2 h
    refine w_iconst (n := (-1)) rfl rfl ?_
    exact w_iret rfl rfl ⟨_, rfl, H⟩

/-- HoleDeskModel.put(III)I at 212 -/
theorem B107_212 {iv : List (Int × Int)} {L : Nat} {h0 : MH} {d : Nat} {s : SM} {l5 : Int} {l6 : Int} {l8 : Int} {l9 : Int} {l10 : Int} {F : Int → SM → Prop} (H : ((l6 ≤ l10 → cm iv L h0 (d + 1) 100 [vr 307, vi 0] (us s 16 l9) (qv fun s1 => F l9 s1)) ∧ (l10 < l6 → ((l10 ≠ 0 → cm iv L h0 (d + 1) 74 [vr 307, vi 0, vi (-9), vi (-9)] s (qi fun r3 s2 => cm iv L h0 (d + 1) 76 [vr 307, vi l9, vi l10, vi r3] s2 (qv fun s4 => (-2147483648 ≤ l10 + 1 ∧ l10 + 1 ≤ 2147483647) ∧ wm iv L h0 (d + 2) 107 212 [lr 307, ln, ln, ln, ln, li l5, li l6, ln, li l8, li l9, li (l10 + 1)] [] s4 (qi F)))) ∧ (l10 = 0 → ((l5 ≠ 0 → cm iv L h0 (d + 1) 74 [vr 307, vi 0, vi (-9), vi (-9)] s (qi fun r7 s6 => cm iv L h0 (d + 1) 76 [vr 307, vi l9, vi l10, vi r7] s6 (qv fun s8 => (-2147483648 ≤ l10 + 1 ∧ l10 + 1 ≤ 2147483647) ∧ wm iv L h0 (d + 2) 107 212 [lr 307, ln, ln, ln, ln, li l5, li l6, ln, li l8, li l9, li (l10 + 1)] [] s8 (qi F)))) ∧ (l5 = 0 → cm iv L h0 (d + 1) 76 [vr 307, vi l9, vi l10, vi l8] s (qv fun s10 => (-2147483648 ≤ l10 + 1 ∧ l10 + 1 ≤ 2147483647) ∧ wm iv L h0 (d + 2) 107 212 [lr 307, ln, ln, ln, ln, li l5, li l6, ln, li l8, li l9, li (l10 + 1)] [] s10 (qi F))))))))) : wm iv L h0 (d + 2) 107 212 [lr 307, ln, ln, ln, ln, li l5, li l6, ln, li l8, li l9, li l10] [] s (qi F) := by
  refine w_iload rfl rfl ?_
  refine w_iload rfl rfl ?_
  refine w_icmp_ge rfl (fun h => ?_) (fun h => ?_)
  · replace H := H.1 h
    refine w_aload_n rfl rfl ?_
    refine w_iload rfl rfl ?_
    refine m_put rfl rfl rfl ?_
    refine w_aload_n rfl rfl ?_
    refine w_iconst (n := 0) rfl rfl ?_
    refine m_call (as := [vi 0]) (r := []) rfl rfl rfl rfl rfl rfl (wc_mono H (Nat.le_refl _) ?_)
    rintro _ s1 ⟨rfl, H⟩
    show wm iv L h0 (d + 2) 107 268 [lr 307, ln, ln, ln, ln, li l5, li l6, ln, li l8, li l9, li l10] [] s1 (qi F)
    refine w_iload rfl rfl ?_
    exact w_iret rfl rfl ⟨_, rfl, H⟩
  · replace H := H.2 h
    refine w_aload_n rfl rfl ?_
    refine w_iload rfl rfl ?_
    refine w_iload rfl rfl ?_
    refine w_iload rfl rfl ?_
    refine w_if_ne rfl (fun h => ?_) (fun h => ?_)
    · replace H := H.1 h
      refine w_aload_n rfl rfl ?_
      refine w_iconst (n := 0) rfl rfl ?_
      refine w_bipush (n := (-9)) rfl rfl rfl ?_
      refine w_bipush (n := (-9)) rfl rfl rfl ?_
      refine m_call (as := [vi 0, vi (-9), vi (-9)]) (r := [vi l10, vi l9, vr 307]) rfl rfl rfl rfl rfl rfl (wc_mono H (Nat.le_refl _) ?_)
      rintro _ s2 ⟨r3, rfl, H⟩
      show wm iv L h0 (d + 2) 107 248 [lr 307, ln, ln, ln, ln, li l5, li l6, ln, li l8, li l9, li l10] [vi r3, vi l10, vi l9, vr 307] s2 (qi F)
      refine m_call (as := [vi l9, vi l10, vi r3]) (r := []) rfl rfl rfl rfl rfl rfl (wc_mono H (Nat.le_refl _) ?_)
      rintro _ s4 ⟨rfl, H⟩
      show wm iv L h0 (d + 2) 107 251 [lr 307, ln, ln, ln, ln, li l5, li l6, ln, li l8, li l9, li l10] [] s4 (qi F)
      obtain ⟨g5, H⟩ := H
      refine w_iinc rfl rfl rfl g5 ?_
      refine w_goto rfl ?_
      exact wp_ls (sl_s (sl_n (sl_n (sl_n (sl_n (sl_s (sl_s (sl_n (sl_s (sl_s (sl_s (sl_0)))))))))))) H
    · replace H := H.2 h
      refine w_iload rfl rfl ?_
      refine w_if_ne rfl (fun h => ?_) (fun h => ?_)
      · replace H := H.1 h
        refine w_aload_n rfl rfl ?_
        refine w_iconst (n := 0) rfl rfl ?_
        refine w_bipush (n := (-9)) rfl rfl rfl ?_
        refine w_bipush (n := (-9)) rfl rfl rfl ?_
        refine m_call (as := [vi 0, vi (-9), vi (-9)]) (r := [vi l10, vi l9, vr 307]) rfl rfl rfl rfl rfl rfl (wc_mono H (Nat.le_refl _) ?_)
        rintro _ s6 ⟨r7, rfl, H⟩
        show wm iv L h0 (d + 2) 107 248 [lr 307, ln, ln, ln, ln, li l5, li l6, ln, li l8, li l9, li l10] [vi r7, vi l10, vi l9, vr 307] s6 (qi F)
        refine m_call (as := [vi l9, vi l10, vi r7]) (r := []) rfl rfl rfl rfl rfl rfl (wc_mono H (Nat.le_refl _) ?_)
        rintro _ s8 ⟨rfl, H⟩
        show wm iv L h0 (d + 2) 107 251 [lr 307, ln, ln, ln, ln, li l5, li l6, ln, li l8, li l9, li l10] [] s8 (qi F)
        obtain ⟨g9, H⟩ := H
        refine w_iinc rfl rfl rfl g9 ?_
        refine w_goto rfl ?_
        exact wp_ls (sl_s (sl_n (sl_n (sl_n (sl_n (sl_s (sl_s (sl_n (sl_s (sl_s (sl_s (sl_0)))))))))))) H
      · replace H := H.2 h
        refine w_iload rfl rfl ?_
        refine w_goto rfl ?_
        refine m_call (as := [vi l9, vi l10, vi l8]) (r := []) rfl rfl rfl rfl rfl rfl (wc_mono H (Nat.le_refl _) ?_)
        rintro _ s10 ⟨rfl, H⟩
        show wm iv L h0 (d + 2) 107 251 [lr 307, ln, ln, ln, ln, li l5, li l6, ln, li l8, li l9, li l10] [] s10 (qi F)
        obtain ⟨g11, H⟩ := H
        refine w_iinc rfl rfl rfl g11 ?_
        refine w_goto rfl ?_
        exact wp_ls (sl_s (sl_n (sl_n (sl_n (sl_n (sl_s (sl_s (sl_n (sl_s (sl_s (sl_s (sl_0)))))))))))) H
end
section
/-! What the methods of the reference come to. Printed by wip/gen2/gens.py. -/
/-- HoleDeskModel.take()I -/
theorem B108 {iv : List (Int × Int)} {L : Nat} {h0 : MH} {d : Nat} {s : SM} {F : Int → SM → Prop} (H : (0 ≤ s.1 16 ∧ s.1 16 < 3004) ∧ ((s.2 9 (s.1 16) ≠ 0 → ((s.1 8 ≠ 3000 → cm iv L h0 d 99 [vr 307] s (qv fun s2 => cm iv L h0 d 74 [vr 307, vi 0, vi (-9), vi (-9)] s2 (qi fun r4 s3 => cm iv L h0 d 77 [vr 307, vi (s3.1 16), vi r4] s3 (qv fun s5 => cm iv L h0 d 100 [vr 307, vi 0] (us s5 16 r4) (qv fun s6 => F r4 s6))))) ∧ (s.1 8 = 3000 → F (-2) s))) ∧ (s.2 9 (s.1 16) = 0 → F (-4) s))) : cm iv L h0 (d + 1) 108 [vr 307] s (qi F) := by
  show wm iv L h0 (d + 1) 108 0 [lr 307] [] s (qi F)
  refine w_aload_n rfl rfl ?_
  refine m_geta (t := 0) (k := 3004) rfl rfl ?_
  refine w_aload_n rfl rfl ?_
  refine m_get rfl rfl ?_
  obtain ⟨g1, H⟩ := H
  refine m_ald rfl (f := 9) (k := 3004) rfl g1 ?_
  refine w_if_ne rfl (fun h => ?_) (fun h => ?_)
  · replace H := H.1 h
    refine w_aload_n rfl rfl ?_
    refine m_get rfl rfl ?_
    refine w_sipush (n := 3000) rfl rfl rfl ?_
    refine w_icmp_ne rfl (fun h => ?_) (fun h => ?_)
    · replace H := H.1 h
      refine w_aload_n rfl rfl ?_
      refine m_call (as := []) (r := []) rfl rfl rfl rfl rfl rfl (wc_mono H (Nat.le_refl _) ?_)
      rintro _ s2 ⟨rfl, H⟩
      show wm iv L h0 (d + 1) 108 32 [lr 307] [] s2 (qi F)
      refine w_aload_n rfl rfl ?_
      refine w_iconst (n := 0) rfl rfl ?_
      refine w_bipush (n := (-9)) rfl rfl rfl ?_
      refine w_bipush (n := (-9)) rfl rfl rfl ?_
      refine m_call (as := [vi 0, vi (-9), vi (-9)]) (r := []) rfl rfl rfl rfl rfl rfl (wc_mono H (Nat.le_refl _) ?_)
      rintro _ s3 ⟨r4, rfl, H⟩
      show wm iv L h0 (d + 1) 108 41 [lr 307] [vi r4] s3 (qi F)
      refine w_istore_n rfl rfl ?_
      refine w_aload_n rfl rfl ?_
      refine w_aload_n rfl rfl ?_
      refine m_get rfl rfl ?_
      refine w_iload_n rfl rfl ?_
      refine m_call (as := [vi (s3.1 16), vi r4]) (r := []) rfl rfl rfl rfl rfl rfl (wc_mono H (Nat.le_refl _) ?_)
      rintro _ s5 ⟨rfl, H⟩
      show wm iv L h0 (d + 1) 108 51 [lr 307, li r4] [] s5 (qi F)
      refine w_aload_n rfl rfl ?_
      refine w_iload_n rfl rfl ?_
      refine m_put rfl rfl rfl ?_
      refine w_aload_n rfl rfl ?_
      refine w_iconst (n := 0) rfl rfl ?_
      refine m_call (as := [vi 0]) (r := []) rfl rfl rfl rfl rfl rfl (wc_mono H (Nat.le_refl _) ?_)
      rintro _ s6 ⟨rfl, H⟩
      show wm iv L h0 (d + 1) 108 61 [lr 307, li r4] [] s6 (qi F)
      refine w_iload_n rfl rfl ?_
      exact w_iret rfl rfl ⟨_, rfl, H⟩
    · replace H := H.2 h
      refine w_bipush (n := (-2)) rfl rfl rfl ?_
      exact w_iret rfl rfl ⟨_, rfl, H⟩
  · replace H := H.2 h
    refine w_bipush (n := (-4)) rfl rfl rfl ?_
    exact w_iret rfl rfl ⟨_, rfl, H⟩

/-- HoleDeskModel.unwrap(I)I -/
theorem B109 {iv : List (Int × Int)} {L : Nat} {h0 : MH} {d : Nat} {s : SM} {a1 : Int} {F : Int → SM → Prop} (H : (0 ≤ s.1 16 ∧ s.1 16 < 3004) ∧ (0 ≤ s.2 9 (s.1 16) ∧ s.2 9 (s.1 16) < 16) ∧ ((pO (s.2 9 (s.1 16)) ≠ 0 → (-2147483648 ≤ (pO (s.2 9 (s.1 16))) - 1 ∧ (pO (s.2 9 (s.1 16))) - 1 ≤ 2147483647) ∧ ((0 ≤ a1 ∧ a1 ≤ (pO (s.2 9 (s.1 16))) - 1 → cm iv L h0 d 99 [vr 307] s (qv fun s4 => (-2147483648 ≤ 3 * (s4.1 16) ∧ 3 * (s4.1 16) ≤ 2147483647) ∧ (-2147483648 ≤ (3 * (s4.1 16)) + a1 ∧ (3 * (s4.1 16)) + a1 ≤ 2147483647) ∧ (0 ≤ (3 * (s4.1 16)) + a1 ∧ (3 * (s4.1 16)) + a1 < 9012) ∧ cm iv L h0 d 77 [vr 307, vi (s4.1 16), vi (s4.2 14 ((3 * (s4.1 16)) + a1))] s4 (qv fun s8 => cm iv L h0 d 100 [vr 307, vi 0] (us s8 16 (s4.2 14 ((3 * (s4.1 16)) + a1))) (qv fun s9 => F (s4.2 14 ((3 * (s4.1 16)) + a1)) s9)))) ∧ (a1 < 0 ∨ (pO (s.2 9 (s.1 16))) - 1 < a1 → cm iv L h0 d 61 [vr 307, vi 2] s (qi fun r11 s10 => F r11 s10)))) ∧ (pO (s.2 9 (s.1 16)) = 0 → F (-4) s))) : cm iv L h0 (d + 1) 109 [vr 307, vi a1] s (qi F) := by
  show wm iv L h0 (d + 1) 109 0 [lr 307, li a1] [] s (qi F)
  refine w_aload_n rfl rfl ?_
  refine m_geta (t := 0) (k := 3004) rfl rfl ?_
  refine w_aload_n rfl rfl ?_
  refine m_get rfl rfl ?_
  obtain ⟨g1, H⟩ := H
  refine m_ald rfl (f := 9) (k := 3004) rfl g1 ?_
  obtain ⟨g2, H⟩ := H
  refine w_static (as := [vi (s.2 9 (s.1 16))]) (r := []) rfl rfl rfl rfl rfl (m_parts g2 ?_)
  show wm iv L h0 (d + 1) 109 12 [lr 307, li a1] [vi (pO (s.2 9 (s.1 16)))] s (qi F)
  refine w_istore_n rfl rfl ?_
  refine w_iload_n rfl rfl ?_
  refine w_if_ne rfl (fun h => ?_) (fun h => ?_)
  · replace H := H.1 h
    refine w_iload_n rfl rfl ?_
    refine w_iconst (n := 0) rfl rfl ?_
    refine w_iload_n rfl rfl ?_
    refine w_iconst (n := 1) rfl rfl ?_
    obtain ⟨g3, H⟩ := H
    refine w_isub rfl g3 ?_
    refine w_static (as := [vi a1, vi 0, vi ((pO (s.2 9 (s.1 16))) - 1)]) (r := []) rfl rfl rfl rfl rfl (m_in (fun h => ?_) (fun h => ?_))
    · show wm iv L h0 (d + 1) 109 28 [lr 307, li a1, li (pO (s.2 9 (s.1 16)))] [vi 1] s (qi F)
      replace H := H.1 h
      refine w_if_ne rfl (fun _ => ?_) (fun h => absurd h (by decide))
      refine w_aload_n rfl rfl ?_
      refine m_call (as := []) (r := []) rfl rfl rfl rfl rfl rfl (wc_mono H (Nat.le_refl _) ?_)
      rintro _ s4 ⟨rfl, H⟩
      show wm iv L h0 (d + 1) 109 41 [lr 307, li a1, li (pO (s.2 9 (s.1 16)))] [] s4 (qi F)
      refine w_aload_n rfl rfl ?_
      refine m_geta (t := 0) (k := 9012) rfl rfl ?_
      refine w_iconst (n := 3) rfl rfl ?_
      refine w_aload_n rfl rfl ?_
      refine m_get rfl rfl ?_
      obtain ⟨g5, H⟩ := H
      refine w_imul rfl g5 ?_
      refine w_iload_n rfl rfl ?_
      obtain ⟨g6, H⟩ := H
      refine w_iadd rfl g6 ?_
      obtain ⟨g7, H⟩ := H
      refine m_ald rfl (f := 14) (k := 9012) rfl g7 ?_
      refine w_istore_n rfl rfl ?_
      refine w_aload_n rfl rfl ?_
      refine w_aload_n rfl rfl ?_
      refine m_get rfl rfl ?_
      refine w_iload_n rfl rfl ?_
      refine m_call (as := [vi (s4.1 16), vi (s4.2 14 ((3 * (s4.1 16)) + a1))]) (r := []) rfl rfl rfl rfl rfl rfl (wc_mono H (Nat.le_refl _) ?_)
      rintro _ s8 ⟨rfl, H⟩
      show wm iv L h0 (d + 1) 109 64 [lr 307, li a1, li (pO (s.2 9 (s.1 16))), li (s4.2 14 ((3 * (s4.1 16)) + a1))] [] s8 (qi F)
      refine w_aload_n rfl rfl ?_
      refine w_iload_n rfl rfl ?_
      refine m_put rfl rfl rfl ?_
      refine w_aload_n rfl rfl ?_
      refine w_iconst (n := 0) rfl rfl ?_
      refine m_call (as := [vi 0]) (r := []) rfl rfl rfl rfl rfl rfl (wc_mono H (Nat.le_refl _) ?_)
      rintro _ s9 ⟨rfl, H⟩
      show wm iv L h0 (d + 1) 109 74 [lr 307, li a1, li (pO (s.2 9 (s.1 16))), li (s4.2 14 ((3 * (s4.1 16)) + a1))] [] s9 (qi F)
      refine w_iload_n rfl rfl ?_
      exact w_iret rfl rfl ⟨_, rfl, H⟩
    · show wm iv L h0 (d + 1) 109 28 [lr 307, li a1, li (pO (s.2 9 (s.1 16)))] [vi 0] s (qi F)
      replace H := H.2 h
      refine w_if_ne rfl (fun h => absurd h (by decide)) (fun _ => ?_)
      refine w_aload_n rfl rfl ?_
      refine w_iconst (n := 2) rfl rfl ?_
      refine m_call (as := [vi 2]) (r := []) rfl rfl rfl rfl rfl rfl (wc_mono H (Nat.le_refl _) ?_)
      rintro _ s10 ⟨r11, rfl, H⟩
      show wm iv L h0 (d + 1) 109 36 [lr 307, li a1, li (pO (s.2 9 (s.1 16)))] [vi r11] s10 (qi F)
      exact w_iret rfl rfl ⟨_, rfl, H⟩
  · replace H := H.2 h
    refine w_bipush (n := (-4)) rfl rfl rfl ?_
    exact w_iret rfl rfl ⟨_, rfl, H⟩

/-- HoleDeskModel.write(I)I -/
theorem B110 {iv : List (Int × Int)} {L : Nat} {h0 : MH} {d : Nat} {s : SM} {a1 : Int} {F : Int → SM → Prop} (H : (0 ≤ s.1 16 ∧ s.1 16 < 3004) ∧ ((s.2 9 (s.1 16) = 1 → ((s.2 9 (s.1 16) ≠ 2 → ((s.2 9 (s.1 16) ≠ 3 → cm iv L h0 d 99 [vr 307] s (qv fun s2 => (0 ≤ s2.1 16 ∧ s2.1 16 < 3004) ∧ cm iv L h0 d 100 [vr 307, vi 0] (ua s2 10 (s2.1 16) a1) (qv fun s4 => F (s2.2 10 (s2.1 16)) s4))) ∧ (s.2 9 (s.1 16) = 3 → ((0 ≤ a1 ∧ a1 ≤ 25 → cm iv L h0 d 99 [vr 307] s (qv fun s5 => (0 ≤ s5.1 16 ∧ s5.1 16 < 3004) ∧ cm iv L h0 d 100 [vr 307, vi 0] (ua s5 10 (s5.1 16) a1) (qv fun s7 => F (s5.2 10 (s5.1 16)) s7))) ∧ (a1 < 0 ∨ 25 < a1 → F (-1) s))))) ∧ (s.2 9 (s.1 16) = 2 → ((0 ≤ a1 ∧ a1 ≤ 1 → ((s.2 9 (s.1 16) ≠ 3 → cm iv L h0 d 99 [vr 307] s (qv fun s8 => (0 ≤ s8.1 16 ∧ s8.1 16 < 3004) ∧ cm iv L h0 d 100 [vr 307, vi 0] (ua s8 10 (s8.1 16) a1) (qv fun s10 => F (s8.2 10 (s8.1 16)) s10))) ∧ (s.2 9 (s.1 16) = 3 → ((0 ≤ a1 ∧ a1 ≤ 25 → cm iv L h0 d 99 [vr 307] s (qv fun s11 => (0 ≤ s11.1 16 ∧ s11.1 16 < 3004) ∧ cm iv L h0 d 100 [vr 307, vi 0] (ua s11 10 (s11.1 16) a1) (qv fun s13 => F (s11.2 10 (s11.1 16)) s13))) ∧ (a1 < 0 ∨ 25 < a1 → F (-1) s))))) ∧ (a1 < 0 ∨ 1 < a1 → F (-1) s))))) ∧ (s.2 9 (s.1 16) ≠ 1 → ((s.2 9 (s.1 16) = 2 → ((s.2 9 (s.1 16) ≠ 2 → ((s.2 9 (s.1 16) ≠ 3 → cm iv L h0 d 99 [vr 307] s (qv fun s14 => (0 ≤ s14.1 16 ∧ s14.1 16 < 3004) ∧ cm iv L h0 d 100 [vr 307, vi 0] (ua s14 10 (s14.1 16) a1) (qv fun s16 => F (s14.2 10 (s14.1 16)) s16))) ∧ (s.2 9 (s.1 16) = 3 → ((0 ≤ a1 ∧ a1 ≤ 25 → cm iv L h0 d 99 [vr 307] s (qv fun s17 => (0 ≤ s17.1 16 ∧ s17.1 16 < 3004) ∧ cm iv L h0 d 100 [vr 307, vi 0] (ua s17 10 (s17.1 16) a1) (qv fun s19 => F (s17.2 10 (s17.1 16)) s19))) ∧ (a1 < 0 ∨ 25 < a1 → F (-1) s))))) ∧ (s.2 9 (s.1 16) = 2 → ((0 ≤ a1 ∧ a1 ≤ 1 → ((s.2 9 (s.1 16) ≠ 3 → cm iv L h0 d 99 [vr 307] s (qv fun s20 => (0 ≤ s20.1 16 ∧ s20.1 16 < 3004) ∧ cm iv L h0 d 100 [vr 307, vi 0] (ua s20 10 (s20.1 16) a1) (qv fun s22 => F (s20.2 10 (s20.1 16)) s22))) ∧ (s.2 9 (s.1 16) = 3 → ((0 ≤ a1 ∧ a1 ≤ 25 → cm iv L h0 d 99 [vr 307] s (qv fun s23 => (0 ≤ s23.1 16 ∧ s23.1 16 < 3004) ∧ cm iv L h0 d 100 [vr 307, vi 0] (ua s23 10 (s23.1 16) a1) (qv fun s25 => F (s23.2 10 (s23.1 16)) s25))) ∧ (a1 < 0 ∨ 25 < a1 → F (-1) s))))) ∧ (a1 < 0 ∨ 1 < a1 → F (-1) s))))) ∧ (s.2 9 (s.1 16) ≠ 2 → ((s.2 9 (s.1 16) = 3 → ((s.2 9 (s.1 16) ≠ 2 → ((s.2 9 (s.1 16) ≠ 3 → cm iv L h0 d 99 [vr 307] s (qv fun s26 => (0 ≤ s26.1 16 ∧ s26.1 16 < 3004) ∧ cm iv L h0 d 100 [vr 307, vi 0] (ua s26 10 (s26.1 16) a1) (qv fun s28 => F (s26.2 10 (s26.1 16)) s28))) ∧ (s.2 9 (s.1 16) = 3 → ((0 ≤ a1 ∧ a1 ≤ 25 → cm iv L h0 d 99 [vr 307] s (qv fun s29 => (0 ≤ s29.1 16 ∧ s29.1 16 < 3004) ∧ cm iv L h0 d 100 [vr 307, vi 0] (ua s29 10 (s29.1 16) a1) (qv fun s31 => F (s29.2 10 (s29.1 16)) s31))) ∧ (a1 < 0 ∨ 25 < a1 → F (-1) s))))) ∧ (s.2 9 (s.1 16) = 2 → ((0 ≤ a1 ∧ a1 ≤ 1 → ((s.2 9 (s.1 16) ≠ 3 → cm iv L h0 d 99 [vr 307] s (qv fun s32 => (0 ≤ s32.1 16 ∧ s32.1 16 < 3004) ∧ cm iv L h0 d 100 [vr 307, vi 0] (ua s32 10 (s32.1 16) a1) (qv fun s34 => F (s32.2 10 (s32.1 16)) s34))) ∧ (s.2 9 (s.1 16) = 3 → ((0 ≤ a1 ∧ a1 ≤ 25 → cm iv L h0 d 99 [vr 307] s (qv fun s35 => (0 ≤ s35.1 16 ∧ s35.1 16 < 3004) ∧ cm iv L h0 d 100 [vr 307, vi 0] (ua s35 10 (s35.1 16) a1) (qv fun s37 => F (s35.2 10 (s35.1 16)) s37))) ∧ (a1 < 0 ∨ 25 < a1 → F (-1) s))))) ∧ (a1 < 0 ∨ 1 < a1 → F (-1) s))))) ∧ (s.2 9 (s.1 16) ≠ 3 → F (-4) s))))))) : cm iv L h0 (d + 1) 110 [vr 307, vi a1] s (qi F) := by
  show wm iv L h0 (d + 1) 110 0 [lr 307, li a1] [] s (qi F)
  refine w_aload_n rfl rfl ?_
  refine m_geta (t := 0) (k := 3004) rfl rfl ?_
  refine w_aload_n rfl rfl ?_
  refine m_get rfl rfl ?_
  obtain ⟨g1, H⟩ := H
  refine m_ald rfl (f := 9) (k := 3004) rfl g1 ?_
  refine w_istore_n rfl rfl ?_
  refine w_iload_n rfl rfl ?_
  refine w_iconst (n := 1) rfl rfl ?_
  refine w_icmp_eq rfl (fun h => ?_) (fun h => ?_)
  · replace H := H.1 h
    refine w_iload_n rfl rfl ?_
    refine w_iconst (n := 2) rfl rfl ?_
    refine w_icmp_ne rfl (fun h => ?_) (fun h => ?_)
    · replace H := H.1 h
      refine w_iload_n rfl rfl ?_
      refine w_iconst (n := 3) rfl rfl ?_
      refine w_icmp_ne rfl (fun h => ?_) (fun h => ?_)
      · replace H := H.1 h
        refine w_aload_n rfl rfl ?_
        refine m_call (as := []) (r := []) rfl rfl rfl rfl rfl rfl (wc_mono H (Nat.le_refl _) ?_)
        rintro _ s2 ⟨rfl, H⟩
        show wm iv L h0 (d + 1) 110 63 [lr 307, li a1, li (s.2 9 (s.1 16))] [] s2 (qi F)
        refine w_aload_n rfl rfl ?_
        refine m_geta (t := 0) (k := 3004) rfl rfl ?_
        refine w_aload_n rfl rfl ?_
        refine m_get rfl rfl ?_
        obtain ⟨g3, H⟩ := H
        refine m_ald rfl (f := 10) (k := 3004) rfl g3 ?_
        refine w_istore_n rfl rfl ?_
        refine w_aload_n rfl rfl ?_
        refine m_geta (t := 0) (k := 3004) rfl rfl ?_
        refine w_aload_n rfl rfl ?_
        refine m_get rfl rfl ?_
        refine w_iload_n rfl rfl ?_
        refine m_ast rfl (f := 10) (k := 3004) rfl g3 ?_
        refine w_aload_n rfl rfl ?_
        refine w_iconst (n := 0) rfl rfl ?_
        refine m_call (as := [vi 0]) (r := []) rfl rfl rfl rfl rfl rfl (wc_mono H (Nat.le_refl _) ?_)
        rintro _ s4 ⟨rfl, H⟩
        show wm iv L h0 (d + 1) 110 88 [lr 307, li a1, li (s.2 9 (s.1 16)), li (s2.2 10 (s2.1 16))] [] s4 (qi F)
        refine w_iload_n rfl rfl ?_
        exact w_iret rfl rfl ⟨_, rfl, H⟩
      · replace H := H.2 h
        refine w_iload_n rfl rfl ?_
        refine w_iconst (n := 0) rfl rfl ?_
        refine w_bipush (n := 25) rfl rfl rfl ?_
        refine w_static (as := [vi a1, vi 0, vi 25]) (r := []) rfl rfl rfl rfl rfl (m_in (fun h => ?_) (fun h => ?_))
        · show wm iv L h0 (d + 1) 110 54 [lr 307, li a1, li (s.2 9 (s.1 16))] [vi 1] s (qi F)
          replace H := H.1 h
          refine w_if_ne rfl (fun _ => ?_) (fun h => absurd h (by decide))
          refine w_aload_n rfl rfl ?_
          refine m_call (as := []) (r := []) rfl rfl rfl rfl rfl rfl (wc_mono H (Nat.le_refl _) ?_)
          rintro _ s5 ⟨rfl, H⟩
          show wm iv L h0 (d + 1) 110 63 [lr 307, li a1, li (s.2 9 (s.1 16))] [] s5 (qi F)
          refine w_aload_n rfl rfl ?_
          refine m_geta (t := 0) (k := 3004) rfl rfl ?_
          refine w_aload_n rfl rfl ?_
          refine m_get rfl rfl ?_
          obtain ⟨g6, H⟩ := H
          refine m_ald rfl (f := 10) (k := 3004) rfl g6 ?_
          refine w_istore_n rfl rfl ?_
          refine w_aload_n rfl rfl ?_
          refine m_geta (t := 0) (k := 3004) rfl rfl ?_
          refine w_aload_n rfl rfl ?_
          refine m_get rfl rfl ?_
          refine w_iload_n rfl rfl ?_
          refine m_ast rfl (f := 10) (k := 3004) rfl g6 ?_
          refine w_aload_n rfl rfl ?_
          refine w_iconst (n := 0) rfl rfl ?_
          refine m_call (as := [vi 0]) (r := []) rfl rfl rfl rfl rfl rfl (wc_mono H (Nat.le_refl _) ?_)
          rintro _ s7 ⟨rfl, H⟩
          show wm iv L h0 (d + 1) 110 88 [lr 307, li a1, li (s.2 9 (s.1 16)), li (s5.2 10 (s5.1 16))] [] s7 (qi F)
          refine w_iload_n rfl rfl ?_
          exact w_iret rfl rfl ⟨_, rfl, H⟩
        · show wm iv L h0 (d + 1) 110 54 [lr 307, li a1, li (s.2 9 (s.1 16))] [vi 0] s (qi F)
          replace H := H.2 h
          refine w_if_ne rfl (fun h => absurd h (by decide)) (fun _ => ?_)
          refine w_iconst (n := (-1)) rfl rfl ?_
          exact w_iret rfl rfl ⟨_, rfl, H⟩
    · replace H := H.2 h
      refine w_iload_n rfl rfl ?_
      refine w_iconst (n := 0) rfl rfl ?_
      refine w_iconst (n := 1) rfl rfl ?_
      refine w_static (as := [vi a1, vi 0, vi 1]) (r := []) rfl rfl rfl rfl rfl (m_in (fun h => ?_) (fun h => ?_))
      · show wm iv L h0 (d + 1) 110 39 [lr 307, li a1, li (s.2 9 (s.1 16))] [vi 1] s (qi F)
        replace H := H.1 h
        refine w_if_eq rfl (fun h => absurd h (by decide)) (fun _ => ?_)
        refine w_iload_n rfl rfl ?_
        refine w_iconst (n := 3) rfl rfl ?_
        refine w_icmp_ne rfl (fun h => ?_) (fun h => ?_)
        · replace H := H.1 h
          refine w_aload_n rfl rfl ?_
          refine m_call (as := []) (r := []) rfl rfl rfl rfl rfl rfl (wc_mono H (Nat.le_refl _) ?_)
          rintro _ s8 ⟨rfl, H⟩
          show wm iv L h0 (d + 1) 110 63 [lr 307, li a1, li (s.2 9 (s.1 16))] [] s8 (qi F)
          refine w_aload_n rfl rfl ?_
          refine m_geta (t := 0) (k := 3004) rfl rfl ?_
          refine w_aload_n rfl rfl ?_
          refine m_get rfl rfl ?_
          obtain ⟨g9, H⟩ := H
          refine m_ald rfl (f := 10) (k := 3004) rfl g9 ?_
          refine w_istore_n rfl rfl ?_
          refine w_aload_n rfl rfl ?_
          refine m_geta (t := 0) (k := 3004) rfl rfl ?_
          refine w_aload_n rfl rfl ?_
          refine m_get rfl rfl ?_
          refine w_iload_n rfl rfl ?_
          refine m_ast rfl (f := 10) (k := 3004) rfl g9 ?_
          refine w_aload_n rfl rfl ?_
          refine w_iconst (n := 0) rfl rfl ?_
          refine m_call (as := [vi 0]) (r := []) rfl rfl rfl rfl rfl rfl (wc_mono H (Nat.le_refl _) ?_)
          rintro _ s10 ⟨rfl, H⟩
          show wm iv L h0 (d + 1) 110 88 [lr 307, li a1, li (s.2 9 (s.1 16)), li (s8.2 10 (s8.1 16))] [] s10 (qi F)
          refine w_iload_n rfl rfl ?_
          exact w_iret rfl rfl ⟨_, rfl, H⟩
        · replace H := H.2 h
          refine w_iload_n rfl rfl ?_
          refine w_iconst (n := 0) rfl rfl ?_
          refine w_bipush (n := 25) rfl rfl rfl ?_
          refine w_static (as := [vi a1, vi 0, vi 25]) (r := []) rfl rfl rfl rfl rfl (m_in (fun h => ?_) (fun h => ?_))
          · show wm iv L h0 (d + 1) 110 54 [lr 307, li a1, li (s.2 9 (s.1 16))] [vi 1] s (qi F)
            replace H := H.1 h
            refine w_if_ne rfl (fun _ => ?_) (fun h => absurd h (by decide))
            refine w_aload_n rfl rfl ?_
            refine m_call (as := []) (r := []) rfl rfl rfl rfl rfl rfl (wc_mono H (Nat.le_refl _) ?_)
            rintro _ s11 ⟨rfl, H⟩
            show wm iv L h0 (d + 1) 110 63 [lr 307, li a1, li (s.2 9 (s.1 16))] [] s11 (qi F)
            refine w_aload_n rfl rfl ?_
            refine m_geta (t := 0) (k := 3004) rfl rfl ?_
            refine w_aload_n rfl rfl ?_
            refine m_get rfl rfl ?_
            obtain ⟨g12, H⟩ := H
            refine m_ald rfl (f := 10) (k := 3004) rfl g12 ?_
            refine w_istore_n rfl rfl ?_
            refine w_aload_n rfl rfl ?_
            refine m_geta (t := 0) (k := 3004) rfl rfl ?_
            refine w_aload_n rfl rfl ?_
            refine m_get rfl rfl ?_
            refine w_iload_n rfl rfl ?_
            refine m_ast rfl (f := 10) (k := 3004) rfl g12 ?_
            refine w_aload_n rfl rfl ?_
            refine w_iconst (n := 0) rfl rfl ?_
            refine m_call (as := [vi 0]) (r := []) rfl rfl rfl rfl rfl rfl (wc_mono H (Nat.le_refl _) ?_)
            rintro _ s13 ⟨rfl, H⟩
            show wm iv L h0 (d + 1) 110 88 [lr 307, li a1, li (s.2 9 (s.1 16)), li (s11.2 10 (s11.1 16))] [] s13 (qi F)
            refine w_iload_n rfl rfl ?_
            exact w_iret rfl rfl ⟨_, rfl, H⟩
          · show wm iv L h0 (d + 1) 110 54 [lr 307, li a1, li (s.2 9 (s.1 16))] [vi 0] s (qi F)
            replace H := H.2 h
            refine w_if_ne rfl (fun h => absurd h (by decide)) (fun _ => ?_)
            refine w_iconst (n := (-1)) rfl rfl ?_
            exact w_iret rfl rfl ⟨_, rfl, H⟩
      · show wm iv L h0 (d + 1) 110 39 [lr 307, li a1, li (s.2 9 (s.1 16))] [vi 0] s (qi F)
        replace H := H.2 h
        refine w_if_eq rfl (fun _ => ?_) (fun h => absurd h (by decide))
        refine w_iconst (n := (-1)) rfl rfl ?_
        exact w_iret rfl rfl ⟨_, rfl, H⟩
  · replace H := H.2 h
    refine w_iload_n rfl rfl ?_
    refine w_iconst (n := 2) rfl rfl ?_
    refine w_icmp_eq rfl (fun h => ?_) (fun h => ?_)
    · replace H := H.1 h
      refine w_iload_n rfl rfl ?_
      refine w_iconst (n := 2) rfl rfl ?_
      refine w_icmp_ne rfl (fun h => ?_) (fun h => ?_)
      · replace H := H.1 h
        refine w_iload_n rfl rfl ?_
        refine w_iconst (n := 3) rfl rfl ?_
        refine w_icmp_ne rfl (fun h => ?_) (fun h => ?_)
        · replace H := H.1 h
          refine w_aload_n rfl rfl ?_
          refine m_call (as := []) (r := []) rfl rfl rfl rfl rfl rfl (wc_mono H (Nat.le_refl _) ?_)
          rintro _ s14 ⟨rfl, H⟩
          show wm iv L h0 (d + 1) 110 63 [lr 307, li a1, li (s.2 9 (s.1 16))] [] s14 (qi F)
          refine w_aload_n rfl rfl ?_
          refine m_geta (t := 0) (k := 3004) rfl rfl ?_
          refine w_aload_n rfl rfl ?_
          refine m_get rfl rfl ?_
          obtain ⟨g15, H⟩ := H
          refine m_ald rfl (f := 10) (k := 3004) rfl g15 ?_
          refine w_istore_n rfl rfl ?_
          refine w_aload_n rfl rfl ?_
          refine m_geta (t := 0) (k := 3004) rfl rfl ?_
          refine w_aload_n rfl rfl ?_
          refine m_get rfl rfl ?_
          refine w_iload_n rfl rfl ?_
          refine m_ast rfl (f := 10) (k := 3004) rfl g15 ?_
          refine w_aload_n rfl rfl ?_
          refine w_iconst (n := 0) rfl rfl ?_
          refine m_call (as := [vi 0]) (r := []) rfl rfl rfl rfl rfl rfl (wc_mono H (Nat.le_refl _) ?_)
          rintro _ s16 ⟨rfl, H⟩
          show wm iv L h0 (d + 1) 110 88 [lr 307, li a1, li (s.2 9 (s.1 16)), li (s14.2 10 (s14.1 16))] [] s16 (qi F)
          refine w_iload_n rfl rfl ?_
          exact w_iret rfl rfl ⟨_, rfl, H⟩
        · replace H := H.2 h
          refine w_iload_n rfl rfl ?_
          refine w_iconst (n := 0) rfl rfl ?_
          refine w_bipush (n := 25) rfl rfl rfl ?_
          refine w_static (as := [vi a1, vi 0, vi 25]) (r := []) rfl rfl rfl rfl rfl (m_in (fun h => ?_) (fun h => ?_))
          · show wm iv L h0 (d + 1) 110 54 [lr 307, li a1, li (s.2 9 (s.1 16))] [vi 1] s (qi F)
            replace H := H.1 h
            refine w_if_ne rfl (fun _ => ?_) (fun h => absurd h (by decide))
            refine w_aload_n rfl rfl ?_
            refine m_call (as := []) (r := []) rfl rfl rfl rfl rfl rfl (wc_mono H (Nat.le_refl _) ?_)
            rintro _ s17 ⟨rfl, H⟩
            show wm iv L h0 (d + 1) 110 63 [lr 307, li a1, li (s.2 9 (s.1 16))] [] s17 (qi F)
            refine w_aload_n rfl rfl ?_
            refine m_geta (t := 0) (k := 3004) rfl rfl ?_
            refine w_aload_n rfl rfl ?_
            refine m_get rfl rfl ?_
            obtain ⟨g18, H⟩ := H
            refine m_ald rfl (f := 10) (k := 3004) rfl g18 ?_
            refine w_istore_n rfl rfl ?_
            refine w_aload_n rfl rfl ?_
            refine m_geta (t := 0) (k := 3004) rfl rfl ?_
            refine w_aload_n rfl rfl ?_
            refine m_get rfl rfl ?_
            refine w_iload_n rfl rfl ?_
            refine m_ast rfl (f := 10) (k := 3004) rfl g18 ?_
            refine w_aload_n rfl rfl ?_
            refine w_iconst (n := 0) rfl rfl ?_
            refine m_call (as := [vi 0]) (r := []) rfl rfl rfl rfl rfl rfl (wc_mono H (Nat.le_refl _) ?_)
            rintro _ s19 ⟨rfl, H⟩
            show wm iv L h0 (d + 1) 110 88 [lr 307, li a1, li (s.2 9 (s.1 16)), li (s17.2 10 (s17.1 16))] [] s19 (qi F)
            refine w_iload_n rfl rfl ?_
            exact w_iret rfl rfl ⟨_, rfl, H⟩
          · show wm iv L h0 (d + 1) 110 54 [lr 307, li a1, li (s.2 9 (s.1 16))] [vi 0] s (qi F)
            replace H := H.2 h
            refine w_if_ne rfl (fun h => absurd h (by decide)) (fun _ => ?_)
            refine w_iconst (n := (-1)) rfl rfl ?_
            exact w_iret rfl rfl ⟨_, rfl, H⟩
      · replace H := H.2 h
        refine w_iload_n rfl rfl ?_
        refine w_iconst (n := 0) rfl rfl ?_
        refine w_iconst (n := 1) rfl rfl ?_
        refine w_static (as := [vi a1, vi 0, vi 1]) (r := []) rfl rfl rfl rfl rfl (m_in (fun h => ?_) (fun h => ?_))
        · show wm iv L h0 (d + 1) 110 39 [lr 307, li a1, li (s.2 9 (s.1 16))] [vi 1] s (qi F)
          replace H := H.1 h
          refine w_if_eq rfl (fun h => absurd h (by decide)) (fun _ => ?_)
          refine w_iload_n rfl rfl ?_
          refine w_iconst (n := 3) rfl rfl ?_
          refine w_icmp_ne rfl (fun h => ?_) (fun h => ?_)
          · replace H := H.1 h
            refine w_aload_n rfl rfl ?_
            refine m_call (as := []) (r := []) rfl rfl rfl rfl rfl rfl (wc_mono H (Nat.le_refl _) ?_)
            rintro _ s20 ⟨rfl, H⟩
            show wm iv L h0 (d + 1) 110 63 [lr 307, li a1, li (s.2 9 (s.1 16))] [] s20 (qi F)
            refine w_aload_n rfl rfl ?_
            refine m_geta (t := 0) (k := 3004) rfl rfl ?_
            refine w_aload_n rfl rfl ?_
            refine m_get rfl rfl ?_
            obtain ⟨g21, H⟩ := H
            refine m_ald rfl (f := 10) (k := 3004) rfl g21 ?_
            refine w_istore_n rfl rfl ?_
            refine w_aload_n rfl rfl ?_
            refine m_geta (t := 0) (k := 3004) rfl rfl ?_
            refine w_aload_n rfl rfl ?_
            refine m_get rfl rfl ?_
            refine w_iload_n rfl rfl ?_
            refine m_ast rfl (f := 10) (k := 3004) rfl g21 ?_
            refine w_aload_n rfl rfl ?_
            refine w_iconst (n := 0) rfl rfl ?_
            refine m_call (as := [vi 0]) (r := []) rfl rfl rfl rfl rfl rfl (wc_mono H (Nat.le_refl _) ?_)
            rintro _ s22 ⟨rfl, H⟩
            show wm iv L h0 (d + 1) 110 88 [lr 307, li a1, li (s.2 9 (s.1 16)), li (s20.2 10 (s20.1 16))] [] s22 (qi F)
            refine w_iload_n rfl rfl ?_
            exact w_iret rfl rfl ⟨_, rfl, H⟩
          · replace H := H.2 h
            refine w_iload_n rfl rfl ?_
            refine w_iconst (n := 0) rfl rfl ?_
            refine w_bipush (n := 25) rfl rfl rfl ?_
            refine w_static (as := [vi a1, vi 0, vi 25]) (r := []) rfl rfl rfl rfl rfl (m_in (fun h => ?_) (fun h => ?_))
            · show wm iv L h0 (d + 1) 110 54 [lr 307, li a1, li (s.2 9 (s.1 16))] [vi 1] s (qi F)
              replace H := H.1 h
              refine w_if_ne rfl (fun _ => ?_) (fun h => absurd h (by decide))
              refine w_aload_n rfl rfl ?_
              refine m_call (as := []) (r := []) rfl rfl rfl rfl rfl rfl (wc_mono H (Nat.le_refl _) ?_)
              rintro _ s23 ⟨rfl, H⟩
              show wm iv L h0 (d + 1) 110 63 [lr 307, li a1, li (s.2 9 (s.1 16))] [] s23 (qi F)
              refine w_aload_n rfl rfl ?_
              refine m_geta (t := 0) (k := 3004) rfl rfl ?_
              refine w_aload_n rfl rfl ?_
              refine m_get rfl rfl ?_
              obtain ⟨g24, H⟩ := H
              refine m_ald rfl (f := 10) (k := 3004) rfl g24 ?_
              refine w_istore_n rfl rfl ?_
              refine w_aload_n rfl rfl ?_
              refine m_geta (t := 0) (k := 3004) rfl rfl ?_
              refine w_aload_n rfl rfl ?_
              refine m_get rfl rfl ?_
              refine w_iload_n rfl rfl ?_
              refine m_ast rfl (f := 10) (k := 3004) rfl g24 ?_
              refine w_aload_n rfl rfl ?_
              refine w_iconst (n := 0) rfl rfl ?_
              refine m_call (as := [vi 0]) (r := []) rfl rfl rfl rfl rfl rfl (wc_mono H (Nat.le_refl _) ?_)
              rintro _ s25 ⟨rfl, H⟩
              show wm iv L h0 (d + 1) 110 88 [lr 307, li a1, li (s.2 9 (s.1 16)), li (s23.2 10 (s23.1 16))] [] s25 (qi F)
              refine w_iload_n rfl rfl ?_
              exact w_iret rfl rfl ⟨_, rfl, H⟩
            · show wm iv L h0 (d + 1) 110 54 [lr 307, li a1, li (s.2 9 (s.1 16))] [vi 0] s (qi F)
              replace H := H.2 h
              refine w_if_ne rfl (fun h => absurd h (by decide)) (fun _ => ?_)
              refine w_iconst (n := (-1)) rfl rfl ?_
              exact w_iret rfl rfl ⟨_, rfl, H⟩
        · show wm iv L h0 (d + 1) 110 39 [lr 307, li a1, li (s.2 9 (s.1 16))] [vi 0] s (qi F)
          replace H := H.2 h
          refine w_if_eq rfl (fun _ => ?_) (fun h => absurd h (by decide))
          refine w_iconst (n := (-1)) rfl rfl ?_
          exact w_iret rfl rfl ⟨_, rfl, H⟩
    · replace H := H.2 h
      refine w_iload_n rfl rfl ?_
      refine w_iconst (n := 3) rfl rfl ?_
      refine w_icmp_eq rfl (fun h => ?_) (fun h => ?_)
      · replace H := H.1 h
        refine w_iload_n rfl rfl ?_
        refine w_iconst (n := 2) rfl rfl ?_
        refine w_icmp_ne rfl (fun h => ?_) (fun h => ?_)
        · replace H := H.1 h
          refine w_iload_n rfl rfl ?_
          refine w_iconst (n := 3) rfl rfl ?_
          refine w_icmp_ne rfl (fun h => ?_) (fun h => ?_)
          · replace H := H.1 h
            refine w_aload_n rfl rfl ?_
            refine m_call (as := []) (r := []) rfl rfl rfl rfl rfl rfl (wc_mono H (Nat.le_refl _) ?_)
            rintro _ s26 ⟨rfl, H⟩
            show wm iv L h0 (d + 1) 110 63 [lr 307, li a1, li (s.2 9 (s.1 16))] [] s26 (qi F)
            refine w_aload_n rfl rfl ?_
            refine m_geta (t := 0) (k := 3004) rfl rfl ?_
            refine w_aload_n rfl rfl ?_
            refine m_get rfl rfl ?_
            obtain ⟨g27, H⟩ := H
            refine m_ald rfl (f := 10) (k := 3004) rfl g27 ?_
            refine w_istore_n rfl rfl ?_
            refine w_aload_n rfl rfl ?_
            refine m_geta (t := 0) (k := 3004) rfl rfl ?_
            refine w_aload_n rfl rfl ?_
            refine m_get rfl rfl ?_
            refine w_iload_n rfl rfl ?_
            refine m_ast rfl (f := 10) (k := 3004) rfl g27 ?_
            refine w_aload_n rfl rfl ?_
            refine w_iconst (n := 0) rfl rfl ?_
            refine m_call (as := [vi 0]) (r := []) rfl rfl rfl rfl rfl rfl (wc_mono H (Nat.le_refl _) ?_)
            rintro _ s28 ⟨rfl, H⟩
            show wm iv L h0 (d + 1) 110 88 [lr 307, li a1, li (s.2 9 (s.1 16)), li (s26.2 10 (s26.1 16))] [] s28 (qi F)
            refine w_iload_n rfl rfl ?_
            exact w_iret rfl rfl ⟨_, rfl, H⟩
          · replace H := H.2 h
            refine w_iload_n rfl rfl ?_
            refine w_iconst (n := 0) rfl rfl ?_
            refine w_bipush (n := 25) rfl rfl rfl ?_
            refine w_static (as := [vi a1, vi 0, vi 25]) (r := []) rfl rfl rfl rfl rfl (m_in (fun h => ?_) (fun h => ?_))
            · show wm iv L h0 (d + 1) 110 54 [lr 307, li a1, li (s.2 9 (s.1 16))] [vi 1] s (qi F)
              replace H := H.1 h
              refine w_if_ne rfl (fun _ => ?_) (fun h => absurd h (by decide))
              refine w_aload_n rfl rfl ?_
              refine m_call (as := []) (r := []) rfl rfl rfl rfl rfl rfl (wc_mono H (Nat.le_refl _) ?_)
              rintro _ s29 ⟨rfl, H⟩
              show wm iv L h0 (d + 1) 110 63 [lr 307, li a1, li (s.2 9 (s.1 16))] [] s29 (qi F)
              refine w_aload_n rfl rfl ?_
              refine m_geta (t := 0) (k := 3004) rfl rfl ?_
              refine w_aload_n rfl rfl ?_
              refine m_get rfl rfl ?_
              obtain ⟨g30, H⟩ := H
              refine m_ald rfl (f := 10) (k := 3004) rfl g30 ?_
              refine w_istore_n rfl rfl ?_
              refine w_aload_n rfl rfl ?_
              refine m_geta (t := 0) (k := 3004) rfl rfl ?_
              refine w_aload_n rfl rfl ?_
              refine m_get rfl rfl ?_
              refine w_iload_n rfl rfl ?_
              refine m_ast rfl (f := 10) (k := 3004) rfl g30 ?_
              refine w_aload_n rfl rfl ?_
              refine w_iconst (n := 0) rfl rfl ?_
              refine m_call (as := [vi 0]) (r := []) rfl rfl rfl rfl rfl rfl (wc_mono H (Nat.le_refl _) ?_)
              rintro _ s31 ⟨rfl, H⟩
              show wm iv L h0 (d + 1) 110 88 [lr 307, li a1, li (s.2 9 (s.1 16)), li (s29.2 10 (s29.1 16))] [] s31 (qi F)
              refine w_iload_n rfl rfl ?_
              exact w_iret rfl rfl ⟨_, rfl, H⟩
            · show wm iv L h0 (d + 1) 110 54 [lr 307, li a1, li (s.2 9 (s.1 16))] [vi 0] s (qi F)
              replace H := H.2 h
              refine w_if_ne rfl (fun h => absurd h (by decide)) (fun _ => ?_)
              refine w_iconst (n := (-1)) rfl rfl ?_
              exact w_iret rfl rfl ⟨_, rfl, H⟩
        · replace H := H.2 h
          refine w_iload_n rfl rfl ?_
          refine w_iconst (n := 0) rfl rfl ?_
          refine w_iconst (n := 1) rfl rfl ?_
          refine w_static (as := [vi a1, vi 0, vi 1]) (r := []) rfl rfl rfl rfl rfl (m_in (fun h => ?_) (fun h => ?_))
          · show wm iv L h0 (d + 1) 110 39 [lr 307, li a1, li (s.2 9 (s.1 16))] [vi 1] s (qi F)
            replace H := H.1 h
            refine w_if_eq rfl (fun h => absurd h (by decide)) (fun _ => ?_)
            refine w_iload_n rfl rfl ?_
            refine w_iconst (n := 3) rfl rfl ?_
            refine w_icmp_ne rfl (fun h => ?_) (fun h => ?_)
            · replace H := H.1 h
              refine w_aload_n rfl rfl ?_
              refine m_call (as := []) (r := []) rfl rfl rfl rfl rfl rfl (wc_mono H (Nat.le_refl _) ?_)
              rintro _ s32 ⟨rfl, H⟩
              show wm iv L h0 (d + 1) 110 63 [lr 307, li a1, li (s.2 9 (s.1 16))] [] s32 (qi F)
              refine w_aload_n rfl rfl ?_
              refine m_geta (t := 0) (k := 3004) rfl rfl ?_
              refine w_aload_n rfl rfl ?_
              refine m_get rfl rfl ?_
              obtain ⟨g33, H⟩ := H
              refine m_ald rfl (f := 10) (k := 3004) rfl g33 ?_
              refine w_istore_n rfl rfl ?_
              refine w_aload_n rfl rfl ?_
              refine m_geta (t := 0) (k := 3004) rfl rfl ?_
              refine w_aload_n rfl rfl ?_
              refine m_get rfl rfl ?_
              refine w_iload_n rfl rfl ?_
              refine m_ast rfl (f := 10) (k := 3004) rfl g33 ?_
              refine w_aload_n rfl rfl ?_
              refine w_iconst (n := 0) rfl rfl ?_
              refine m_call (as := [vi 0]) (r := []) rfl rfl rfl rfl rfl rfl (wc_mono H (Nat.le_refl _) ?_)
              rintro _ s34 ⟨rfl, H⟩
              show wm iv L h0 (d + 1) 110 88 [lr 307, li a1, li (s.2 9 (s.1 16)), li (s32.2 10 (s32.1 16))] [] s34 (qi F)
              refine w_iload_n rfl rfl ?_
              exact w_iret rfl rfl ⟨_, rfl, H⟩
            · replace H := H.2 h
              refine w_iload_n rfl rfl ?_
              refine w_iconst (n := 0) rfl rfl ?_
              refine w_bipush (n := 25) rfl rfl rfl ?_
              refine w_static (as := [vi a1, vi 0, vi 25]) (r := []) rfl rfl rfl rfl rfl (m_in (fun h => ?_) (fun h => ?_))
              · show wm iv L h0 (d + 1) 110 54 [lr 307, li a1, li (s.2 9 (s.1 16))] [vi 1] s (qi F)
                replace H := H.1 h
                refine w_if_ne rfl (fun _ => ?_) (fun h => absurd h (by decide))
                refine w_aload_n rfl rfl ?_
                refine m_call (as := []) (r := []) rfl rfl rfl rfl rfl rfl (wc_mono H (Nat.le_refl _) ?_)
                rintro _ s35 ⟨rfl, H⟩
                show wm iv L h0 (d + 1) 110 63 [lr 307, li a1, li (s.2 9 (s.1 16))] [] s35 (qi F)
                refine w_aload_n rfl rfl ?_
                refine m_geta (t := 0) (k := 3004) rfl rfl ?_
                refine w_aload_n rfl rfl ?_
                refine m_get rfl rfl ?_
                obtain ⟨g36, H⟩ := H
                refine m_ald rfl (f := 10) (k := 3004) rfl g36 ?_
                refine w_istore_n rfl rfl ?_
                refine w_aload_n rfl rfl ?_
                refine m_geta (t := 0) (k := 3004) rfl rfl ?_
                refine w_aload_n rfl rfl ?_
                refine m_get rfl rfl ?_
                refine w_iload_n rfl rfl ?_
                refine m_ast rfl (f := 10) (k := 3004) rfl g36 ?_
                refine w_aload_n rfl rfl ?_
                refine w_iconst (n := 0) rfl rfl ?_
                refine m_call (as := [vi 0]) (r := []) rfl rfl rfl rfl rfl rfl (wc_mono H (Nat.le_refl _) ?_)
                rintro _ s37 ⟨rfl, H⟩
                show wm iv L h0 (d + 1) 110 88 [lr 307, li a1, li (s.2 9 (s.1 16)), li (s35.2 10 (s35.1 16))] [] s37 (qi F)
                refine w_iload_n rfl rfl ?_
                exact w_iret rfl rfl ⟨_, rfl, H⟩
              · show wm iv L h0 (d + 1) 110 54 [lr 307, li a1, li (s.2 9 (s.1 16))] [vi 0] s (qi F)
                replace H := H.2 h
                refine w_if_ne rfl (fun h => absurd h (by decide)) (fun _ => ?_)
                refine w_iconst (n := (-1)) rfl rfl ?_
                exact w_iret rfl rfl ⟨_, rfl, H⟩
          · show wm iv L h0 (d + 1) 110 39 [lr 307, li a1, li (s.2 9 (s.1 16))] [vi 0] s (qi F)
            replace H := H.2 h
            refine w_if_eq rfl (fun _ => ?_) (fun h => absurd h (by decide))
            refine w_iconst (n := (-1)) rfl rfl ?_
            exact w_iret rfl rfl ⟨_, rfl, H⟩
      · replace H := H.2 h
        refine w_bipush (n := (-4)) rfl rfl rfl ?_
        exact w_iret rfl rfl ⟨_, rfl, H⟩

/-- HoleDeskModel.rename(I)I -/
theorem B111 {iv : List (Int × Int)} {L : Nat} {h0 : MH} {d : Nat} {s : SM} {a1 : Int} {F : Int → SM → Prop} (H : ((0 ≤ a1 ∧ a1 ≤ 25 → (0 ≤ s.1 16 ∧ s.1 16 < 3004) ∧ ((s.2 9 (s.1 16) = 8 → cm iv L h0 d 99 [vr 307] s (qv fun s2 => (0 ≤ s2.1 16 ∧ s2.1 16 < 3004) ∧ wm iv L h0 (d + 1) 111 62 [lr 307, li a1, li (s2.2 10 (s2.1 16)), li 0, li 0] [] s2 (qi F))) ∧ (s.2 9 (s.1 16) ≠ 8 → ((s.2 9 (s.1 16) = 10 → cm iv L h0 d 99 [vr 307] s (qv fun s4 => (0 ≤ s4.1 16 ∧ s4.1 16 < 3004) ∧ wm iv L h0 (d + 1) 111 62 [lr 307, li a1, li (s4.2 10 (s4.1 16)), li 0, li 0] [] s4 (qi F))) ∧ (s.2 9 (s.1 16) ≠ 10 → F (-4) s))))) ∧ (a1 < 0 ∨ 25 < a1 → F (-1) s))) : cm iv L h0 (d + 1) 111 [vr 307, vi a1] s (qi F) := by
  show wm iv L h0 (d + 1) 111 0 [lr 307, li a1] [] s (qi F)
  refine w_iload_n rfl rfl ?_
  refine w_iconst (n := 0) rfl rfl ?_
  refine w_bipush (n := 25) rfl rfl rfl ?_
  refine w_static (as := [vi a1, vi 0, vi 25]) (r := []) rfl rfl rfl rfl rfl (m_in (fun h => ?_) (fun h => ?_))
  · show wm iv L h0 (d + 1) 111 7 [lr 307, li a1] [vi 1] s (qi F)
    replace H := H.1 h
    refine w_if_ne rfl (fun _ => ?_) (fun h => absurd h (by decide))
    refine w_aload_n rfl rfl ?_
    refine m_geta (t := 0) (k := 3004) rfl rfl ?_
    refine w_aload_n rfl rfl ?_
    refine m_get rfl rfl ?_
    obtain ⟨g1, H⟩ := H
    refine m_ald rfl (f := 9) (k := 3004) rfl g1 ?_
    refine w_bipush (n := 8) rfl rfl rfl ?_
    refine w_icmp_eq rfl (fun h => ?_) (fun h => ?_)
    · replace H := H.1 h
      refine w_aload_n rfl rfl ?_
      refine m_call (as := []) (r := []) rfl rfl rfl rfl rfl rfl (wc_mono H (Nat.le_refl _) ?_)
      rintro _ s2 ⟨rfl, H⟩
      show wm iv L h0 (d + 1) 111 47 [lr 307, li a1] [] s2 (qi F)
      refine w_aload_n rfl rfl ?_
      refine m_geta (t := 0) (k := 3004) rfl rfl ?_
      refine w_aload_n rfl rfl ?_
      refine m_get rfl rfl ?_
      obtain ⟨g3, H⟩ := H
      refine m_ald rfl (f := 10) (k := 3004) rfl g3 ?_
      refine w_istore_n rfl rfl ?_
      refine w_iconst (n := 0) rfl rfl ?_
      refine w_istore_n rfl rfl ?_
      refine w_iconst (n := 0) rfl rfl ?_
      refine w_istore rfl rfl ?_
      exact wp_ls (sl_s (sl_s (sl_s (sl_s (sl_s (sl_0)))))) H
    · replace H := H.2 h
      refine w_aload_n rfl rfl ?_
      refine m_geta (t := 0) (k := 3004) rfl rfl ?_
      refine w_aload_n rfl rfl ?_
      refine m_get rfl rfl ?_
      refine m_ald rfl (f := 9) (k := 3004) rfl g1 ?_
      refine w_bipush (n := 10) rfl rfl rfl ?_
      refine w_icmp_eq rfl (fun h => ?_) (fun h => ?_)
      · replace H := H.1 h
        refine w_aload_n rfl rfl ?_
        refine m_call (as := []) (r := []) rfl rfl rfl rfl rfl rfl (wc_mono H (Nat.le_refl _) ?_)
        rintro _ s4 ⟨rfl, H⟩
        show wm iv L h0 (d + 1) 111 47 [lr 307, li a1] [] s4 (qi F)
        refine w_aload_n rfl rfl ?_
        refine m_geta (t := 0) (k := 3004) rfl rfl ?_
        refine w_aload_n rfl rfl ?_
        refine m_get rfl rfl ?_
        obtain ⟨g5, H⟩ := H
        refine m_ald rfl (f := 10) (k := 3004) rfl g5 ?_
        refine w_istore_n rfl rfl ?_
        refine w_iconst (n := 0) rfl rfl ?_
        refine w_istore_n rfl rfl ?_
        refine w_iconst (n := 0) rfl rfl ?_
        refine w_istore rfl rfl ?_
        exact wp_ls (sl_s (sl_s (sl_s (sl_s (sl_s (sl_0)))))) H
      · replace H := H.2 h
        refine w_bipush (n := (-4)) rfl rfl rfl ?_
        exact w_iret rfl rfl ⟨_, rfl, H⟩
  · show wm iv L h0 (d + 1) 111 7 [lr 307, li a1] [vi 0] s (qi F)
    replace H := H.2 h
    refine w_if_ne rfl (fun h => absurd h (by decide)) (fun _ => ?_)
    refine w_iconst (n := (-1)) rfl rfl ?_
    exact w_iret rfl rfl ⟨_, rfl, H⟩

/-- HoleDeskModel.rename(I)I at 62 -/
theorem B111_62 {iv : List (Int × Int)} {L : Nat} {h0 : MH} {d : Nat} {s : SM} {l1 : Int} {l2 : Int} {l3 : Int} {l4 : Int} {F : Int → SM → Prop} (H : ((s.1 18 ≤ l4 → (0 ≤ s.1 16 ∧ s.1 16 < 3004) ∧ wm iv L h0 (d + 1) 111 174 [lr 307, li l1, li l2, li l3, li 0, li 0] [] (ua s 10 (s.1 16) l1) (qi F)) ∧ (l4 < s.1 18 → (0 ≤ l4 ∧ l4 < 80) ∧ (0 ≤ s.2 17 l4 ∧ s.2 17 l4 < 3004) ∧ ((s.2 9 (s.2 17 l4) ≠ 3 → (((ua s 36 l4 0).2 36 l4 = 0 → (-2147483648 ≤ l3 + 0 ∧ l3 + 0 ≤ 2147483647) ∧ (-2147483648 ≤ l4 + 1 ∧ l4 + 1 ≤ 2147483647) ∧ wm iv L h0 (d + 1) 111 62 [lr 307, li l1, li l2, li (l3 + 0), li (l4 + 1)] [] (ua s 36 l4 0) (qi F)) ∧ ((ua s 36 l4 0).2 36 l4 ≠ 0 → (-2147483648 ≤ l3 + 1 ∧ l3 + 1 ≤ 2147483647) ∧ (-2147483648 ≤ l4 + 1 ∧ l4 + 1 ≤ 2147483647) ∧ wm iv L h0 (d + 1) 111 62 [lr 307, li l1, li l2, li (l3 + 1), li (l4 + 1)] [] (ua s 36 l4 0) (qi F)))) ∧ (s.2 9 (s.2 17 l4) = 3 → ((s.2 10 (s.2 17 l4) ≠ l2 → (((ua s 36 l4 0).2 36 l4 = 0 → (-2147483648 ≤ l3 + 0 ∧ l3 + 0 ≤ 2147483647) ∧ (-2147483648 ≤ l4 + 1 ∧ l4 + 1 ≤ 2147483647) ∧ wm iv L h0 (d + 1) 111 62 [lr 307, li l1, li l2, li (l3 + 0), li (l4 + 1)] [] (ua s 36 l4 0) (qi F)) ∧ ((ua s 36 l4 0).2 36 l4 ≠ 0 → (-2147483648 ≤ l3 + 1 ∧ l3 + 1 ≤ 2147483647) ∧ (-2147483648 ≤ l4 + 1 ∧ l4 + 1 ≤ 2147483647) ∧ wm iv L h0 (d + 1) 111 62 [lr 307, li l1, li l2, li (l3 + 1), li (l4 + 1)] [] (ua s 36 l4 0) (qi F)))) ∧ (s.2 10 (s.2 17 l4) = l2 → cm iv L h0 d 85 [vr 307, vi (s.2 17 l4), vi l2] s (qi fun r13 s12 => ((r13 ≠ s12.1 16 → (((ua s12 36 l4 0).2 36 l4 = 0 → (-2147483648 ≤ l3 + 0 ∧ l3 + 0 ≤ 2147483647) ∧ (-2147483648 ≤ l4 + 1 ∧ l4 + 1 ≤ 2147483647) ∧ wm iv L h0 (d + 1) 111 62 [lr 307, li l1, li l2, li (l3 + 0), li (l4 + 1)] [] (ua s12 36 l4 0) (qi F)) ∧ ((ua s12 36 l4 0).2 36 l4 ≠ 0 → (-2147483648 ≤ l3 + 1 ∧ l3 + 1 ≤ 2147483647) ∧ (-2147483648 ≤ l4 + 1 ∧ l4 + 1 ≤ 2147483647) ∧ wm iv L h0 (d + 1) 111 62 [lr 307, li l1, li l2, li (l3 + 1), li (l4 + 1)] [] (ua s12 36 l4 0) (qi F)))) ∧ (r13 = s12.1 16 → (((ua s12 36 l4 1).2 36 l4 = 0 → (-2147483648 ≤ l3 + 0 ∧ l3 + 0 ≤ 2147483647) ∧ (-2147483648 ≤ l4 + 1 ∧ l4 + 1 ≤ 2147483647) ∧ wm iv L h0 (d + 1) 111 62 [lr 307, li l1, li l2, li (l3 + 0), li (l4 + 1)] [] (ua s12 36 l4 1) (qi F)) ∧ ((ua s12 36 l4 1).2 36 l4 ≠ 0 → (-2147483648 ≤ l3 + 1 ∧ l3 + 1 ≤ 2147483647) ∧ (-2147483648 ≤ l4 + 1 ∧ l4 + 1 ≤ 2147483647) ∧ wm iv L h0 (d + 1) 111 62 [lr 307, li l1, li l2, li (l3 + 1), li (l4 + 1)] [] (ua s12 36 l4 1) (qi F))))))))))))) : wm iv L h0 (d + 1) 111 62 [lr 307, li l1, li l2, li l3, li l4] [] s (qi F) := by
  refine w_iload rfl rfl ?_
  refine w_aload_n rfl rfl ?_
  refine m_get rfl rfl ?_
  refine w_icmp_ge rfl (fun h => ?_) (fun h => ?_)
  · replace H := H.1 h
    refine w_aload_n rfl rfl ?_
    refine m_geta (t := 0) (k := 3004) rfl rfl ?_
    refine w_aload_n rfl rfl ?_
    refine m_get rfl rfl ?_
    refine w_iload_n rfl rfl ?_
    obtain ⟨g1, H⟩ := H
    refine m_ast rfl (f := 10) (k := 3004) rfl g1 ?_
    refine w_iconst (n := 0) rfl rfl ?_
    refine w_istore rfl rfl ?_
    refine w_iconst (n := 0) rfl rfl ?_
    refine w_istore rfl rfl ?_
    exact wp_ls (sl_s (sl_s (sl_s (sl_s (sl_s (sl_s (sl_0))))))) H
  · replace H := H.2 h
    refine w_aload_n rfl rfl ?_
    refine m_geta (t := 2) (k := 80) rfl rfl ?_
    refine w_iload rfl rfl ?_
    refine w_aload_n rfl rfl ?_
    refine m_geta (t := 0) (k := 3004) rfl rfl ?_
    refine w_aload_n rfl rfl ?_
    refine m_geta (t := 0) (k := 80) rfl rfl ?_
    refine w_iload rfl rfl ?_
    obtain ⟨g2, H⟩ := H
    refine m_ald rfl (f := 17) (k := 80) rfl g2 ?_
    obtain ⟨g3, H⟩ := H
    refine m_ald rfl (f := 9) (k := 3004) rfl g3 ?_
    refine w_iconst (n := 3) rfl rfl ?_
    refine w_icmp_ne rfl (fun h => ?_) (fun h => ?_)
    · replace H := H.1 h
      refine w_iconst (n := 0) rfl rfl ?_
      refine m_bast (t := 2) rfl (f := 36) (k := 80) rfl g2 (Or.inr ⟨rfl, by decide⟩) ?_
      refine w_iload_n rfl rfl ?_
      refine w_aload_n rfl rfl ?_
      refine m_geta (t := 2) (k := 80) rfl rfl ?_
      refine w_iload rfl rfl ?_
      refine m_bald (t := 2) rfl (f := 36) (k := 80) rfl g2 ?_
      refine w_if_eq rfl (fun h => ?_) (fun h => ?_)
      · replace H := H.1 h
        refine w_iconst (n := 0) rfl rfl ?_
        obtain ⟨g4, H⟩ := H
        refine w_iadd rfl g4 ?_
        refine w_istore_n rfl rfl ?_
        obtain ⟨g5, H⟩ := H
        refine w_iinc rfl rfl rfl g5 ?_
        refine w_goto rfl ?_
        exact wp_ls (sl_s (sl_s (sl_s (sl_s (sl_s (sl_0)))))) H
      · replace H := H.2 h
        refine w_iconst (n := 1) rfl rfl ?_
        refine w_goto rfl ?_
        obtain ⟨g6, H⟩ := H
        refine w_iadd rfl g6 ?_
        refine w_istore_n rfl rfl ?_
        obtain ⟨g7, H⟩ := H
        refine w_iinc rfl rfl rfl g7 ?_
        refine w_goto rfl ?_
        exact wp_ls (sl_s (sl_s (sl_s (sl_s (sl_s (sl_0)))))) H
    · replace H := H.2 h
      refine w_aload_n rfl rfl ?_
      refine m_geta (t := 0) (k := 3004) rfl rfl ?_
      refine w_aload_n rfl rfl ?_
      refine m_geta (t := 0) (k := 80) rfl rfl ?_
      refine w_iload rfl rfl ?_
      refine m_ald rfl (f := 17) (k := 80) rfl g2 ?_
      refine m_ald rfl (f := 10) (k := 3004) rfl g3 ?_
      refine w_iload_n rfl rfl ?_
      refine w_icmp_ne rfl (fun h => ?_) (fun h => ?_)
      · replace H := H.1 h
        refine w_iconst (n := 0) rfl rfl ?_
        refine m_bast (t := 2) rfl (f := 36) (k := 80) rfl g2 (Or.inr ⟨rfl, by decide⟩) ?_
        refine w_iload_n rfl rfl ?_
        refine w_aload_n rfl rfl ?_
        refine m_geta (t := 2) (k := 80) rfl rfl ?_
        refine w_iload rfl rfl ?_
        refine m_bald (t := 2) rfl (f := 36) (k := 80) rfl g2 ?_
        refine w_if_eq rfl (fun h => ?_) (fun h => ?_)
        · replace H := H.1 h
          refine w_iconst (n := 0) rfl rfl ?_
          obtain ⟨g8, H⟩ := H
          refine w_iadd rfl g8 ?_
          refine w_istore_n rfl rfl ?_
          obtain ⟨g9, H⟩ := H
          refine w_iinc rfl rfl rfl g9 ?_
          refine w_goto rfl ?_
          exact wp_ls (sl_s (sl_s (sl_s (sl_s (sl_s (sl_0)))))) H
        · replace H := H.2 h
          refine w_iconst (n := 1) rfl rfl ?_
          refine w_goto rfl ?_
          obtain ⟨g10, H⟩ := H
          refine w_iadd rfl g10 ?_
          refine w_istore_n rfl rfl ?_
          obtain ⟨g11, H⟩ := H
          refine w_iinc rfl rfl rfl g11 ?_
          refine w_goto rfl ?_
          exact wp_ls (sl_s (sl_s (sl_s (sl_s (sl_s (sl_0)))))) H
      · replace H := H.2 h
        refine w_aload_n rfl rfl ?_
        refine w_aload_n rfl rfl ?_
        refine m_geta (t := 0) (k := 80) rfl rfl ?_
        refine w_iload rfl rfl ?_
        refine m_ald rfl (f := 17) (k := 80) rfl g2 ?_
        refine w_iload_n rfl rfl ?_
        refine m_call (as := [vi (s.2 17 l4), vi l2]) (r := [vi l4, vr 332]) rfl rfl rfl rfl rfl rfl (wc_mono H (Nat.le_refl _) ?_)
        rintro _ s12 ⟨r13, rfl, H⟩
        show wm iv L h0 (d + 1) 111 121 [lr 307, li l1, li l2, li l3, li l4] [vi r13, vi l4, vr 332] s12 (qi F)
        refine w_aload_n rfl rfl ?_
        refine m_get rfl rfl ?_
        refine w_icmp_ne rfl (fun h => ?_) (fun h => ?_)
        · replace H := H.1 h
          refine w_iconst (n := 0) rfl rfl ?_
          refine m_bast (t := 2) rfl (f := 36) (k := 80) rfl g2 (Or.inr ⟨rfl, by decide⟩) ?_
          refine w_iload_n rfl rfl ?_
          refine w_aload_n rfl rfl ?_
          refine m_geta (t := 2) (k := 80) rfl rfl ?_
          refine w_iload rfl rfl ?_
          refine m_bald (t := 2) rfl (f := 36) (k := 80) rfl g2 ?_
          refine w_if_eq rfl (fun h => ?_) (fun h => ?_)
          · replace H := H.1 h
            refine w_iconst (n := 0) rfl rfl ?_
            obtain ⟨g14, H⟩ := H
            refine w_iadd rfl g14 ?_
            refine w_istore_n rfl rfl ?_
            obtain ⟨g15, H⟩ := H
            refine w_iinc rfl rfl rfl g15 ?_
            refine w_goto rfl ?_
            exact wp_ls (sl_s (sl_s (sl_s (sl_s (sl_s (sl_0)))))) H
          · replace H := H.2 h
            refine w_iconst (n := 1) rfl rfl ?_
            refine w_goto rfl ?_
            obtain ⟨g16, H⟩ := H
            refine w_iadd rfl g16 ?_
            refine w_istore_n rfl rfl ?_
            obtain ⟨g17, H⟩ := H
            refine w_iinc rfl rfl rfl g17 ?_
            refine w_goto rfl ?_
            exact wp_ls (sl_s (sl_s (sl_s (sl_s (sl_s (sl_0)))))) H
        · replace H := H.2 h
          refine w_iconst (n := 1) rfl rfl ?_
          refine w_goto rfl ?_
          refine m_bast (t := 2) rfl (f := 36) (k := 80) rfl g2 (Or.inr ⟨rfl, by decide⟩) ?_
          refine w_iload_n rfl rfl ?_
          refine w_aload_n rfl rfl ?_
          refine m_geta (t := 2) (k := 80) rfl rfl ?_
          refine w_iload rfl rfl ?_
          refine m_bald (t := 2) rfl (f := 36) (k := 80) rfl g2 ?_
          refine w_if_eq rfl (fun h => ?_) (fun h => ?_)
          · replace H := H.1 h
            refine w_iconst (n := 0) rfl rfl ?_
            obtain ⟨g18, H⟩ := H
            refine w_iadd rfl g18 ?_
            refine w_istore_n rfl rfl ?_
            obtain ⟨g19, H⟩ := H
            refine w_iinc rfl rfl rfl g19 ?_
            refine w_goto rfl ?_
            exact wp_ls (sl_s (sl_s (sl_s (sl_s (sl_s (sl_0)))))) H
          · replace H := H.2 h
            refine w_iconst (n := 1) rfl rfl ?_
            refine w_goto rfl ?_
            obtain ⟨g20, H⟩ := H
            refine w_iadd rfl g20 ?_
            refine w_istore_n rfl rfl ?_
            obtain ⟨g21, H⟩ := H
            refine w_iinc rfl rfl rfl g21 ?_
            refine w_goto rfl ?_
            exact wp_ls (sl_s (sl_s (sl_s (sl_s (sl_s (sl_0)))))) H

/-- HoleDeskModel.rename(I)I at 174 -/
theorem B111_174 {iv : List (Int × Int)} {L : Nat} {h0 : MH} {d : Nat} {s : SM} {l1 : Int} {l2 : Int} {l3 : Int} {l4 : Int} {l5 : Int} {F : Int → SM → Prop} (H : ((s.1 18 ≤ l5 → ((l4 = 0 → wm iv L h0 (d + 1) 111 317 [lr 307, li l1, ln, li l3, ln, li 0] [] s (qi F)) ∧ (l4 ≠ 0 → (0 ≤ s.1 16 ∧ s.1 16 < 3004) ∧ F (-6) (ua s 10 (s.1 16) l2)))) ∧ (l5 < s.1 18 → (0 ≤ l5 ∧ l5 < 80) ∧ (0 ≤ s.2 17 l5 ∧ s.2 17 l5 < 3004) ∧ ((s.2 9 (s.2 17 l5) ≠ 3 → ((l4 ≠ 0 → (-2147483648 ≤ l5 + 1 ∧ l5 + 1 ≤ 2147483647) ∧ wm iv L h0 (d + 1) 111 174 [lr 307, li l1, li l2, li l3, li 1, li (l5 + 1)] [] s (qi F)) ∧ (l4 = 0 → ((s.2 9 (s.2 17 l5) ≠ 3 → (-2147483648 ≤ l5 + 1 ∧ l5 + 1 ≤ 2147483647) ∧ wm iv L h0 (d + 1) 111 174 [lr 307, li l1, li l2, li l3, li 0, li (l5 + 1)] [] s (qi F)) ∧ (s.2 9 (s.2 17 l5) = 3 → ((0 = s.2 36 l5 → (-2147483648 ≤ l5 + 1 ∧ l5 + 1 ≤ 2147483647) ∧ wm iv L h0 (d + 1) 111 174 [lr 307, li l1, li l2, li l3, li 0, li (l5 + 1)] [] s (qi F)) ∧ (0 ≠ s.2 36 l5 → (-2147483648 ≤ l5 + 1 ∧ l5 + 1 ≤ 2147483647) ∧ wm iv L h0 (d + 1) 111 174 [lr 307, li l1, li l2, li l3, li 1, li (l5 + 1)] [] s (qi F)))))))) ∧ (s.2 9 (s.2 17 l5) = 3 → ((s.2 36 l5 = 0 → cm iv L h0 d 85 [vr 307, vi (s.2 17 l5), vi (s.2 10 (s.2 17 l5))] s (qi fun r9 s8 => ((r9 ≠ s8.1 16 → ((l4 ≠ 0 → (-2147483648 ≤ l5 + 1 ∧ l5 + 1 ≤ 2147483647) ∧ wm iv L h0 (d + 1) 111 174 [lr 307, li l1, li l2, li l3, li 1, li (l5 + 1)] [] s8 (qi F)) ∧ (l4 = 0 → (0 ≤ s8.2 17 l5 ∧ s8.2 17 l5 < 3004) ∧ ((s8.2 9 (s8.2 17 l5) ≠ 3 → (-2147483648 ≤ l5 + 1 ∧ l5 + 1 ≤ 2147483647) ∧ wm iv L h0 (d + 1) 111 174 [lr 307, li l1, li l2, li l3, li 0, li (l5 + 1)] [] s8 (qi F)) ∧ (s8.2 9 (s8.2 17 l5) = 3 → ((0 = s8.2 36 l5 → (-2147483648 ≤ l5 + 1 ∧ l5 + 1 ≤ 2147483647) ∧ wm iv L h0 (d + 1) 111 174 [lr 307, li l1, li l2, li l3, li 0, li (l5 + 1)] [] s8 (qi F)) ∧ (0 ≠ s8.2 36 l5 → (-2147483648 ≤ l5 + 1 ∧ l5 + 1 ≤ 2147483647) ∧ wm iv L h0 (d + 1) 111 174 [lr 307, li l1, li l2, li l3, li 1, li (l5 + 1)] [] s8 (qi F)))))))) ∧ (r9 = s8.1 16 → ((l4 ≠ 0 → (-2147483648 ≤ l5 + 1 ∧ l5 + 1 ≤ 2147483647) ∧ wm iv L h0 (d + 1) 111 174 [lr 307, li l1, li l2, li l3, li 1, li (l5 + 1)] [] s8 (qi F)) ∧ (l4 = 0 → (0 ≤ s8.2 17 l5 ∧ s8.2 17 l5 < 3004) ∧ ((s8.2 9 (s8.2 17 l5) ≠ 3 → (-2147483648 ≤ l5 + 1 ∧ l5 + 1 ≤ 2147483647) ∧ wm iv L h0 (d + 1) 111 174 [lr 307, li l1, li l2, li l3, li 0, li (l5 + 1)] [] s8 (qi F)) ∧ (s8.2 9 (s8.2 17 l5) = 3 → ((1 = s8.2 36 l5 → (-2147483648 ≤ l5 + 1 ∧ l5 + 1 ≤ 2147483647) ∧ wm iv L h0 (d + 1) 111 174 [lr 307, li l1, li l2, li l3, li 0, li (l5 + 1)] [] s8 (qi F)) ∧ (1 ≠ s8.2 36 l5 → (-2147483648 ≤ l5 + 1 ∧ l5 + 1 ≤ 2147483647) ∧ wm iv L h0 (d + 1) 111 174 [lr 307, li l1, li l2, li l3, li 1, li (l5 + 1)] [] s8 (qi F))))))))))) ∧ (s.2 36 l5 ≠ 0 → cm iv L h0 d 85 [vr 307, vi (s.2 17 l5), vi l1] s (qi fun r21 s20 => ((r21 ≠ s20.1 16 → ((l4 ≠ 0 → (-2147483648 ≤ l5 + 1 ∧ l5 + 1 ≤ 2147483647) ∧ wm iv L h0 (d + 1) 111 174 [lr 307, li l1, li l2, li l3, li 1, li (l5 + 1)] [] s20 (qi F)) ∧ (l4 = 0 → (0 ≤ s20.2 17 l5 ∧ s20.2 17 l5 < 3004) ∧ ((s20.2 9 (s20.2 17 l5) ≠ 3 → (-2147483648 ≤ l5 + 1 ∧ l5 + 1 ≤ 2147483647) ∧ wm iv L h0 (d + 1) 111 174 [lr 307, li l1, li l2, li l3, li 0, li (l5 + 1)] [] s20 (qi F)) ∧ (s20.2 9 (s20.2 17 l5) = 3 → ((0 = s20.2 36 l5 → (-2147483648 ≤ l5 + 1 ∧ l5 + 1 ≤ 2147483647) ∧ wm iv L h0 (d + 1) 111 174 [lr 307, li l1, li l2, li l3, li 0, li (l5 + 1)] [] s20 (qi F)) ∧ (0 ≠ s20.2 36 l5 → (-2147483648 ≤ l5 + 1 ∧ l5 + 1 ≤ 2147483647) ∧ wm iv L h0 (d + 1) 111 174 [lr 307, li l1, li l2, li l3, li 1, li (l5 + 1)] [] s20 (qi F)))))))) ∧ (r21 = s20.1 16 → ((l4 ≠ 0 → (-2147483648 ≤ l5 + 1 ∧ l5 + 1 ≤ 2147483647) ∧ wm iv L h0 (d + 1) 111 174 [lr 307, li l1, li l2, li l3, li 1, li (l5 + 1)] [] s20 (qi F)) ∧ (l4 = 0 → (0 ≤ s20.2 17 l5 ∧ s20.2 17 l5 < 3004) ∧ ((s20.2 9 (s20.2 17 l5) ≠ 3 → (-2147483648 ≤ l5 + 1 ∧ l5 + 1 ≤ 2147483647) ∧ wm iv L h0 (d + 1) 111 174 [lr 307, li l1, li l2, li l3, li 0, li (l5 + 1)] [] s20 (qi F)) ∧ (s20.2 9 (s20.2 17 l5) = 3 → ((1 = s20.2 36 l5 → (-2147483648 ≤ l5 + 1 ∧ l5 + 1 ≤ 2147483647) ∧ wm iv L h0 (d + 1) 111 174 [lr 307, li l1, li l2, li l3, li 0, li (l5 + 1)] [] s20 (qi F)) ∧ (1 ≠ s20.2 36 l5 → (-2147483648 ≤ l5 + 1 ∧ l5 + 1 ≤ 2147483647) ∧ wm iv L h0 (d + 1) 111 174 [lr 307, li l1, li l2, li l3, li 1, li (l5 + 1)] [] s20 (qi F))))))))))))))))) : wm iv L h0 (d + 1) 111 174 [lr 307, li l1, li l2, li l3, li l4, li l5] [] s (qi F) := by
  refine w_iload rfl rfl ?_
  refine w_aload_n rfl rfl ?_
  refine m_get rfl rfl ?_
  refine w_icmp_ge rfl (fun h => ?_) (fun h => ?_)
  · replace H := H.1 h
    refine w_iload rfl rfl ?_
    refine w_if_eq rfl (fun h => ?_) (fun h => ?_)
    · replace H := H.1 h
      refine w_iconst (n := 0) rfl rfl ?_
      refine w_istore rfl rfl ?_
      exact wp_ls (sl_s (sl_s (sl_n (sl_s (sl_n (sl_s (sl_0))))))) H
    · replace H := H.2 h
      refine w_aload_n rfl rfl ?_
      refine m_geta (t := 0) (k := 3004) rfl rfl ?_
      refine w_aload_n rfl rfl ?_
      refine m_get rfl rfl ?_
      refine w_iload_n rfl rfl ?_
      obtain ⟨g1, H⟩ := H
      refine m_ast rfl (f := 10) (k := 3004) rfl g1 ?_
      refine w_bipush (n := (-6)) rfl rfl rfl ?_
      exact w_iret rfl rfl ⟨_, rfl, H⟩
  · replace H := H.2 h
    refine w_aload_n rfl rfl ?_
    refine m_geta (t := 0) (k := 3004) rfl rfl ?_
    refine w_aload_n rfl rfl ?_
    refine m_geta (t := 0) (k := 80) rfl rfl ?_
    refine w_iload rfl rfl ?_
    obtain ⟨g2, H⟩ := H
    refine m_ald rfl (f := 17) (k := 80) rfl g2 ?_
    obtain ⟨g3, H⟩ := H
    refine m_ald rfl (f := 9) (k := 3004) rfl g3 ?_
    refine w_iconst (n := 3) rfl rfl ?_
    refine w_icmp_ne rfl (fun h => ?_) (fun h => ?_)
    · replace H := H.1 h
      refine w_iconst (n := 0) rfl rfl ?_
      refine w_istore rfl rfl ?_
      refine w_iload rfl rfl ?_
      refine w_if_ne rfl (fun h => ?_) (fun h => ?_)
      · replace H := H.1 h
        refine w_iconst (n := 1) rfl rfl ?_
        refine w_goto rfl ?_
        refine w_istore rfl rfl ?_
        obtain ⟨g4, H⟩ := H
        refine w_iinc rfl rfl rfl g4 ?_
        refine w_goto rfl ?_
        exact wp_ls (sl_s (sl_s (sl_s (sl_s (sl_s (sl_s (sl_0))))))) H
      · replace H := H.2 h
        refine w_aload_n rfl rfl ?_
        refine m_geta (t := 0) (k := 3004) rfl rfl ?_
        refine w_aload_n rfl rfl ?_
        refine m_geta (t := 0) (k := 80) rfl rfl ?_
        refine w_iload rfl rfl ?_
        refine m_ald rfl (f := 17) (k := 80) rfl g2 ?_
        refine m_ald rfl (f := 9) (k := 3004) rfl g3 ?_
        refine w_iconst (n := 3) rfl rfl ?_
        refine w_icmp_ne rfl (fun h => ?_) (fun h => ?_)
        · replace H := H.1 h
          refine w_iconst (n := 0) rfl rfl ?_
          refine w_istore rfl rfl ?_
          obtain ⟨g5, H⟩ := H
          refine w_iinc rfl rfl rfl g5 ?_
          refine w_goto rfl ?_
          exact wp_ls (sl_s (sl_s (sl_s (sl_s (sl_s (sl_s (sl_0))))))) H
        · replace H := H.2 h
          refine w_iload rfl rfl ?_
          refine w_aload_n rfl rfl ?_
          refine m_geta (t := 2) (k := 80) rfl rfl ?_
          refine w_iload rfl rfl ?_
          refine m_bald (t := 2) rfl (f := 36) (k := 80) rfl g2 ?_
          refine w_icmp_eq rfl (fun h => ?_) (fun h => ?_)
          · replace H := H.1 h
            refine w_iconst (n := 0) rfl rfl ?_
            refine w_istore rfl rfl ?_
            obtain ⟨g6, H⟩ := H
            refine w_iinc rfl rfl rfl g6 ?_
            refine w_goto rfl ?_
            exact wp_ls (sl_s (sl_s (sl_s (sl_s (sl_s (sl_s (sl_0))))))) H
          · replace H := H.2 h
            refine w_iconst (n := 1) rfl rfl ?_
            refine w_goto rfl ?_
            refine w_istore rfl rfl ?_
            obtain ⟨g7, H⟩ := H
            refine w_iinc rfl rfl rfl g7 ?_
            refine w_goto rfl ?_
            exact wp_ls (sl_s (sl_s (sl_s (sl_s (sl_s (sl_s (sl_0))))))) H
    · replace H := H.2 h
      refine w_aload_n rfl rfl ?_
      refine w_aload_n rfl rfl ?_
      refine m_geta (t := 0) (k := 80) rfl rfl ?_
      refine w_iload rfl rfl ?_
      refine m_ald rfl (f := 17) (k := 80) rfl g2 ?_
      refine w_aload_n rfl rfl ?_
      refine m_geta (t := 2) (k := 80) rfl rfl ?_
      refine w_iload rfl rfl ?_
      refine m_bald (t := 2) rfl (f := 36) (k := 80) rfl g2 ?_
      refine w_if_eq rfl (fun h => ?_) (fun h => ?_)
      · replace H := H.1 h
        refine w_aload_n rfl rfl ?_
        refine m_geta (t := 0) (k := 3004) rfl rfl ?_
        refine w_aload_n rfl rfl ?_
        refine m_geta (t := 0) (k := 80) rfl rfl ?_
        refine w_iload rfl rfl ?_
        refine m_ald rfl (f := 17) (k := 80) rfl g2 ?_
        refine m_ald rfl (f := 10) (k := 3004) rfl g3 ?_
        refine m_call (as := [vi (s.2 17 l5), vi (s.2 10 (s.2 17 l5))]) (r := []) rfl rfl rfl rfl rfl rfl (wc_mono H (Nat.le_refl _) ?_)
        rintro _ s8 ⟨r9, rfl, H⟩
        show wm iv L h0 (d + 1) 111 236 [lr 307, li l1, li l2, li l3, li l4, li l5] [vi r9] s8 (qi F)
        refine w_aload_n rfl rfl ?_
        refine m_get rfl rfl ?_
        refine w_icmp_ne rfl (fun h => ?_) (fun h => ?_)
        · replace H := H.1 h
          refine w_iconst (n := 0) rfl rfl ?_
          refine w_istore rfl rfl ?_
          refine w_iload rfl rfl ?_
          refine w_if_ne rfl (fun h => ?_) (fun h => ?_)
          · replace H := H.1 h
            refine w_iconst (n := 1) rfl rfl ?_
            refine w_goto rfl ?_
            refine w_istore rfl rfl ?_
            obtain ⟨g10, H⟩ := H
            refine w_iinc rfl rfl rfl g10 ?_
            refine w_goto rfl ?_
            exact wp_ls (sl_s (sl_s (sl_s (sl_s (sl_s (sl_s (sl_0))))))) H
          · replace H := H.2 h
            refine w_aload_n rfl rfl ?_
            refine m_geta (t := 0) (k := 3004) rfl rfl ?_
            refine w_aload_n rfl rfl ?_
            refine m_geta (t := 0) (k := 80) rfl rfl ?_
            refine w_iload rfl rfl ?_
            refine m_ald rfl (f := 17) (k := 80) rfl g2 ?_
            obtain ⟨g11, H⟩ := H
            refine m_ald rfl (f := 9) (k := 3004) rfl g11 ?_
            refine w_iconst (n := 3) rfl rfl ?_
            refine w_icmp_ne rfl (fun h => ?_) (fun h => ?_)
            · replace H := H.1 h
              refine w_iconst (n := 0) rfl rfl ?_
              refine w_istore rfl rfl ?_
              obtain ⟨g12, H⟩ := H
              refine w_iinc rfl rfl rfl g12 ?_
              refine w_goto rfl ?_
              exact wp_ls (sl_s (sl_s (sl_s (sl_s (sl_s (sl_s (sl_0))))))) H
            · replace H := H.2 h
              refine w_iload rfl rfl ?_
              refine w_aload_n rfl rfl ?_
              refine m_geta (t := 2) (k := 80) rfl rfl ?_
              refine w_iload rfl rfl ?_
              refine m_bald (t := 2) rfl (f := 36) (k := 80) rfl g2 ?_
              refine w_icmp_eq rfl (fun h => ?_) (fun h => ?_)
              · replace H := H.1 h
                refine w_iconst (n := 0) rfl rfl ?_
                refine w_istore rfl rfl ?_
                obtain ⟨g13, H⟩ := H
                refine w_iinc rfl rfl rfl g13 ?_
                refine w_goto rfl ?_
                exact wp_ls (sl_s (sl_s (sl_s (sl_s (sl_s (sl_s (sl_0))))))) H
              · replace H := H.2 h
                refine w_iconst (n := 1) rfl rfl ?_
                refine w_goto rfl ?_
                refine w_istore rfl rfl ?_
                obtain ⟨g14, H⟩ := H
                refine w_iinc rfl rfl rfl g14 ?_
                refine w_goto rfl ?_
                exact wp_ls (sl_s (sl_s (sl_s (sl_s (sl_s (sl_s (sl_0))))))) H
        · replace H := H.2 h
          refine w_iconst (n := 1) rfl rfl ?_
          refine w_goto rfl ?_
          refine w_istore rfl rfl ?_
          refine w_iload rfl rfl ?_
          refine w_if_ne rfl (fun h => ?_) (fun h => ?_)
          · replace H := H.1 h
            refine w_iconst (n := 1) rfl rfl ?_
            refine w_goto rfl ?_
            refine w_istore rfl rfl ?_
            obtain ⟨g15, H⟩ := H
            refine w_iinc rfl rfl rfl g15 ?_
            refine w_goto rfl ?_
            exact wp_ls (sl_s (sl_s (sl_s (sl_s (sl_s (sl_s (sl_0))))))) H
          · replace H := H.2 h
            refine w_aload_n rfl rfl ?_
            refine m_geta (t := 0) (k := 3004) rfl rfl ?_
            refine w_aload_n rfl rfl ?_
            refine m_geta (t := 0) (k := 80) rfl rfl ?_
            refine w_iload rfl rfl ?_
            refine m_ald rfl (f := 17) (k := 80) rfl g2 ?_
            obtain ⟨g16, H⟩ := H
            refine m_ald rfl (f := 9) (k := 3004) rfl g16 ?_
            refine w_iconst (n := 3) rfl rfl ?_
            refine w_icmp_ne rfl (fun h => ?_) (fun h => ?_)
            · replace H := H.1 h
              refine w_iconst (n := 0) rfl rfl ?_
              refine w_istore rfl rfl ?_
              obtain ⟨g17, H⟩ := H
              refine w_iinc rfl rfl rfl g17 ?_
              refine w_goto rfl ?_
              exact wp_ls (sl_s (sl_s (sl_s (sl_s (sl_s (sl_s (sl_0))))))) H
            · replace H := H.2 h
              refine w_iload rfl rfl ?_
              refine w_aload_n rfl rfl ?_
              refine m_geta (t := 2) (k := 80) rfl rfl ?_
              refine w_iload rfl rfl ?_
              refine m_bald (t := 2) rfl (f := 36) (k := 80) rfl g2 ?_
              refine w_icmp_eq rfl (fun h => ?_) (fun h => ?_)
              · replace H := H.1 h
                refine w_iconst (n := 0) rfl rfl ?_
                refine w_istore rfl rfl ?_
                obtain ⟨g18, H⟩ := H
                refine w_iinc rfl rfl rfl g18 ?_
                refine w_goto rfl ?_
                exact wp_ls (sl_s (sl_s (sl_s (sl_s (sl_s (sl_s (sl_0))))))) H
              · replace H := H.2 h
                refine w_iconst (n := 1) rfl rfl ?_
                refine w_goto rfl ?_
                refine w_istore rfl rfl ?_
                obtain ⟨g19, H⟩ := H
                refine w_iinc rfl rfl rfl g19 ?_
                refine w_goto rfl ?_
                exact wp_ls (sl_s (sl_s (sl_s (sl_s (sl_s (sl_s (sl_0))))))) H
      · replace H := H.2 h
        refine w_iload_n rfl rfl ?_
        refine w_goto rfl ?_
        refine m_call (as := [vi (s.2 17 l5), vi l1]) (r := []) rfl rfl rfl rfl rfl rfl (wc_mono H (Nat.le_refl _) ?_)
        rintro _ s20 ⟨r21, rfl, H⟩
        show wm iv L h0 (d + 1) 111 236 [lr 307, li l1, li l2, li l3, li l4, li l5] [vi r21] s20 (qi F)
        refine w_aload_n rfl rfl ?_
        refine m_get rfl rfl ?_
        refine w_icmp_ne rfl (fun h => ?_) (fun h => ?_)
        · replace H := H.1 h
          refine w_iconst (n := 0) rfl rfl ?_
          refine w_istore rfl rfl ?_
          refine w_iload rfl rfl ?_
          refine w_if_ne rfl (fun h => ?_) (fun h => ?_)
          · replace H := H.1 h
            refine w_iconst (n := 1) rfl rfl ?_
            refine w_goto rfl ?_
            refine w_istore rfl rfl ?_
            obtain ⟨g22, H⟩ := H
            refine w_iinc rfl rfl rfl g22 ?_
            refine w_goto rfl ?_
            exact wp_ls (sl_s (sl_s (sl_s (sl_s (sl_s (sl_s (sl_0))))))) H
          · replace H := H.2 h
            refine w_aload_n rfl rfl ?_
            refine m_geta (t := 0) (k := 3004) rfl rfl ?_
            refine w_aload_n rfl rfl ?_
            refine m_geta (t := 0) (k := 80) rfl rfl ?_
            refine w_iload rfl rfl ?_
            refine m_ald rfl (f := 17) (k := 80) rfl g2 ?_
            obtain ⟨g23, H⟩ := H
            refine m_ald rfl (f := 9) (k := 3004) rfl g23 ?_
            refine w_iconst (n := 3) rfl rfl ?_
            refine w_icmp_ne rfl (fun h => ?_) (fun h => ?_)
            · replace H := H.1 h
              refine w_iconst (n := 0) rfl rfl ?_
              refine w_istore rfl rfl ?_
              obtain ⟨g24, H⟩ := H
              refine w_iinc rfl rfl rfl g24 ?_
              refine w_goto rfl ?_
              exact wp_ls (sl_s (sl_s (sl_s (sl_s (sl_s (sl_s (sl_0))))))) H
            · replace H := H.2 h
              refine w_iload rfl rfl ?_
              refine w_aload_n rfl rfl ?_
              refine m_geta (t := 2) (k := 80) rfl rfl ?_
              refine w_iload rfl rfl ?_
              refine m_bald (t := 2) rfl (f := 36) (k := 80) rfl g2 ?_
              refine w_icmp_eq rfl (fun h => ?_) (fun h => ?_)
              · replace H := H.1 h
                refine w_iconst (n := 0) rfl rfl ?_
                refine w_istore rfl rfl ?_
                obtain ⟨g25, H⟩ := H
                refine w_iinc rfl rfl rfl g25 ?_
                refine w_goto rfl ?_
                exact wp_ls (sl_s (sl_s (sl_s (sl_s (sl_s (sl_s (sl_0))))))) H
              · replace H := H.2 h
                refine w_iconst (n := 1) rfl rfl ?_
                refine w_goto rfl ?_
                refine w_istore rfl rfl ?_
                obtain ⟨g26, H⟩ := H
                refine w_iinc rfl rfl rfl g26 ?_
                refine w_goto rfl ?_
                exact wp_ls (sl_s (sl_s (sl_s (sl_s (sl_s (sl_s (sl_0))))))) H
        · replace H := H.2 h
          refine w_iconst (n := 1) rfl rfl ?_
          refine w_goto rfl ?_
          refine w_istore rfl rfl ?_
          refine w_iload rfl rfl ?_
          refine w_if_ne rfl (fun h => ?_) (fun h => ?_)
          · replace H := H.1 h
            refine w_iconst (n := 1) rfl rfl ?_
            refine w_goto rfl ?_
            refine w_istore rfl rfl ?_
            obtain ⟨g27, H⟩ := H
            refine w_iinc rfl rfl rfl g27 ?_
            refine w_goto rfl ?_
            exact wp_ls (sl_s (sl_s (sl_s (sl_s (sl_s (sl_s (sl_0))))))) H
          · replace H := H.2 h
            refine w_aload_n rfl rfl ?_
            refine m_geta (t := 0) (k := 3004) rfl rfl ?_
            refine w_aload_n rfl rfl ?_
            refine m_geta (t := 0) (k := 80) rfl rfl ?_
            refine w_iload rfl rfl ?_
            refine m_ald rfl (f := 17) (k := 80) rfl g2 ?_
            obtain ⟨g28, H⟩ := H
            refine m_ald rfl (f := 9) (k := 3004) rfl g28 ?_
            refine w_iconst (n := 3) rfl rfl ?_
            refine w_icmp_ne rfl (fun h => ?_) (fun h => ?_)
            · replace H := H.1 h
              refine w_iconst (n := 0) rfl rfl ?_
              refine w_istore rfl rfl ?_
              obtain ⟨g29, H⟩ := H
              refine w_iinc rfl rfl rfl g29 ?_
              refine w_goto rfl ?_
              exact wp_ls (sl_s (sl_s (sl_s (sl_s (sl_s (sl_s (sl_0))))))) H
            · replace H := H.2 h
              refine w_iload rfl rfl ?_
              refine w_aload_n rfl rfl ?_
              refine m_geta (t := 2) (k := 80) rfl rfl ?_
              refine w_iload rfl rfl ?_
              refine m_bald (t := 2) rfl (f := 36) (k := 80) rfl g2 ?_
              refine w_icmp_eq rfl (fun h => ?_) (fun h => ?_)
              · replace H := H.1 h
                refine w_iconst (n := 0) rfl rfl ?_
                refine w_istore rfl rfl ?_
                obtain ⟨g30, H⟩ := H
                refine w_iinc rfl rfl rfl g30 ?_
                refine w_goto rfl ?_
                exact wp_ls (sl_s (sl_s (sl_s (sl_s (sl_s (sl_s (sl_0))))))) H
              · replace H := H.2 h
                refine w_iconst (n := 1) rfl rfl ?_
                refine w_goto rfl ?_
                refine w_istore rfl rfl ?_
                obtain ⟨g31, H⟩ := H
                refine w_iinc rfl rfl rfl g31 ?_
                refine w_goto rfl ?_
                exact wp_ls (sl_s (sl_s (sl_s (sl_s (sl_s (sl_s (sl_0))))))) H

/-- HoleDeskModel.rename(I)I at 317 -/
theorem B111_317 {iv : List (Int × Int)} {L : Nat} {h0 : MH} {d : Nat} {s : SM} {l1 : Int} {l3 : Int} {l5 : Int} {F : Int → SM → Prop} (H : ((s.1 18 ≤ l5 → cm iv L h0 d 100 [vr 307, vi 0] s (qv fun s1 => F l3 s1)) ∧ (l5 < s.1 18 → (0 ≤ l5 ∧ l5 < 80) ∧ ((s.2 36 l5 = 0 → (0 ≤ s.2 17 l5 ∧ s.2 17 l5 < 3004) ∧ (-2147483648 ≤ l5 + 1 ∧ l5 + 1 ≤ 2147483647) ∧ wm iv L h0 (d + 1) 111 317 [lr 307, li l1, ln, li l3, ln, li (l5 + 1)] [] (ua s 10 (s.2 17 l5) (s.2 10 (s.2 17 l5))) (qi F)) ∧ (s.2 36 l5 ≠ 0 → (0 ≤ s.2 17 l5 ∧ s.2 17 l5 < 3004) ∧ (-2147483648 ≤ l5 + 1 ∧ l5 + 1 ≤ 2147483647) ∧ wm iv L h0 (d + 1) 111 317 [lr 307, li l1, ln, li l3, ln, li (l5 + 1)] [] (ua s 10 (s.2 17 l5) l1) (qi F)))))) : wm iv L h0 (d + 1) 111 317 [lr 307, li l1, ln, li l3, ln, li l5] [] s (qi F) := by
  refine w_iload rfl rfl ?_
  refine w_aload_n rfl rfl ?_
  refine m_get rfl rfl ?_
  refine w_icmp_ge rfl (fun h => ?_) (fun h => ?_)
  · replace H := H.1 h
    refine w_aload_n rfl rfl ?_
    refine w_iconst (n := 0) rfl rfl ?_
    refine m_call (as := [vi 0]) (r := []) rfl rfl rfl rfl rfl rfl (wc_mono H (Nat.le_refl _) ?_)
    rintro _ s1 ⟨rfl, H⟩
    show wm iv L h0 (d + 1) 111 375 [lr 307, li l1, ln, li l3, ln, li l5] [] s1 (qi F)
    refine w_iload_n rfl rfl ?_
    exact w_iret rfl rfl ⟨_, rfl, H⟩
  · replace H := H.2 h
    refine w_aload_n rfl rfl ?_
    refine m_geta (t := 0) (k := 3004) rfl rfl ?_
    refine w_aload_n rfl rfl ?_
    refine m_geta (t := 0) (k := 80) rfl rfl ?_
    refine w_iload rfl rfl ?_
    obtain ⟨g2, H⟩ := H
    refine m_ald rfl (f := 17) (k := 80) rfl g2 ?_
    refine w_aload_n rfl rfl ?_
    refine m_geta (t := 2) (k := 80) rfl rfl ?_
    refine w_iload rfl rfl ?_
    refine m_bald (t := 2) rfl (f := 36) (k := 80) rfl g2 ?_
    refine w_if_eq rfl (fun h => ?_) (fun h => ?_)
    · replace H := H.1 h
      refine w_aload_n rfl rfl ?_
      refine m_geta (t := 0) (k := 3004) rfl rfl ?_
      refine w_aload_n rfl rfl ?_
      refine m_geta (t := 0) (k := 80) rfl rfl ?_
      refine w_iload rfl rfl ?_
      refine m_ald rfl (f := 17) (k := 80) rfl g2 ?_
      obtain ⟨g3, H⟩ := H
      refine m_ald rfl (f := 10) (k := 3004) rfl g3 ?_
      refine m_ast rfl (f := 10) (k := 3004) rfl g3 ?_
      obtain ⟨g4, H⟩ := H
      refine w_iinc rfl rfl rfl g4 ?_
      refine w_goto rfl ?_
      exact wp_ls (sl_s (sl_s (sl_n (sl_s (sl_n (sl_s (sl_0))))))) H
    · replace H := H.2 h
      refine w_iload_n rfl rfl ?_
      refine w_goto rfl ?_
      obtain ⟨g5, H⟩ := H
      refine m_ast rfl (f := 10) (k := 3004) rfl g5 ?_
      obtain ⟨g6, H⟩ := H
      refine w_iinc rfl rfl rfl g6 ?_
      refine w_goto rfl ?_
      exact wp_ls (sl_s (sl_s (sl_n (sl_s (sl_n (sl_s (sl_0))))))) H

/-- HoleDeskModel.move(I)I -/
theorem B112 {iv : List (Int × Int)} {L : Nat} {h0 : MH} {d : Nat} {s : SM} {a1 : Int} {F : Int → SM → Prop} (H : cm iv L h0 d 80 [vr 307, vi a1] s (qi fun r2 s1 => ((r2 ≠ 0 → (0 ≤ a1 ∧ a1 < 3004) ∧ ((s1.2 9 a1 ≠ 0 → F (-4) s1) ∧ (s1.2 9 a1 = 0 → ((a1 = s1.1 16 → F (-4) s1) ∧ (a1 ≠ s1.1 16 → cm iv L h0 d 84 [vr 307, vi a1, vi (s1.1 16)] s1 (qi fun r5 s4 => ((r5 = 0 → ((s4.1 8 ≠ 3000 → cm iv L h0 d 81 [vr 307, vi (s4.1 16)] s4 (qi fun r7 s6 => wm iv L h0 (d + 1) 112 66 [lr 307, li a1, li r7, li 0] [] s6 (qi F))) ∧ (s4.1 8 = 3000 → F (-2) s4))) ∧ (r5 ≠ 0 → F (-4) s4)))))))) ∧ (r2 = 0 → F (-1) s1)))) : cm iv L h0 (d + 1) 112 [vr 307, vi a1] s (qi F) := by
  show wm iv L h0 (d + 1) 112 0 [lr 307, li a1] [] s (qi F)
  refine w_aload_n rfl rfl ?_
  refine w_iload_n rfl rfl ?_
  refine m_call (as := [vi a1]) (r := []) rfl rfl rfl rfl rfl rfl (wc_mono H (Nat.le_refl _) ?_)
  rintro _ s1 ⟨r2, rfl, H⟩
  show wm iv L h0 (d + 1) 112 5 [lr 307, li a1] [vi r2] s1 (qi F)
  refine w_if_ne rfl (fun h => ?_) (fun h => ?_)
  · replace H := H.1 h
    refine w_aload_n rfl rfl ?_
    refine m_geta (t := 0) (k := 3004) rfl rfl ?_
    refine w_iload_n rfl rfl ?_
    obtain ⟨g3, H⟩ := H
    refine m_ald rfl (f := 9) (k := 3004) rfl g3 ?_
    refine w_if_ne rfl (fun h => ?_) (fun h => ?_)
    · replace H := H.1 h
      refine w_bipush (n := (-4)) rfl rfl rfl ?_
      exact w_iret rfl rfl ⟨_, rfl, H⟩
    · replace H := H.2 h
      refine w_iload_n rfl rfl ?_
      refine w_aload_n rfl rfl ?_
      refine m_get rfl rfl ?_
      refine w_icmp_eq rfl (fun h => ?_) (fun h => ?_)
      · replace H := H.1 h
        refine w_bipush (n := (-4)) rfl rfl rfl ?_
        exact w_iret rfl rfl ⟨_, rfl, H⟩
      · replace H := H.2 h
        refine w_aload_n rfl rfl ?_
        refine w_iload_n rfl rfl ?_
        refine w_aload_n rfl rfl ?_
        refine m_get rfl rfl ?_
        refine m_call (as := [vi a1, vi (s1.1 16)]) (r := []) rfl rfl rfl rfl rfl rfl (wc_mono H (Nat.le_refl _) ?_)
        rintro _ s4 ⟨r5, rfl, H⟩
        show wm iv L h0 (d + 1) 112 36 [lr 307, li a1] [vi r5] s4 (qi F)
        refine w_if_eq rfl (fun h => ?_) (fun h => ?_)
        · replace H := H.1 h
          refine w_aload_n rfl rfl ?_
          refine m_get rfl rfl ?_
          refine w_sipush (n := 3000) rfl rfl rfl ?_
          refine w_icmp_ne rfl (fun h => ?_) (fun h => ?_)
          · replace H := H.1 h
            refine w_aload_n rfl rfl ?_
            refine w_aload_n rfl rfl ?_
            refine m_get rfl rfl ?_
            refine m_call (as := [vi (s4.1 16)]) (r := []) rfl rfl rfl rfl rfl rfl (wc_mono H (Nat.le_refl _) ?_)
            rintro _ s6 ⟨r7, rfl, H⟩
            show wm iv L h0 (d + 1) 112 63 [lr 307, li a1] [vi r7] s6 (qi F)
            refine w_istore_n rfl rfl ?_
            refine w_iconst (n := 0) rfl rfl ?_
            refine w_istore_n rfl rfl ?_
            exact wp_ls (sl_s (sl_s (sl_s (sl_s (sl_0))))) H
          · replace H := H.2 h
            refine w_bipush (n := (-2)) rfl rfl rfl ?_
            exact w_iret rfl rfl ⟨_, rfl, H⟩
        · replace H := H.2 h
          refine w_bipush (n := (-4)) rfl rfl rfl ?_
          exact w_iret rfl rfl ⟨_, rfl, H⟩
  · replace H := H.2 h
    refine w_iconst (n := (-1)) rfl rfl ?_
    exact w_iret rfl rfl ⟨_, rfl, H⟩

/-- HoleDeskModel.move(I)I at 66 -/
theorem B112_66 {iv : List (Int × Int)} {L : Nat} {h0 : MH} {d : Nat} {s : SM} {l1 : Int} {l2 : Int} {l3 : Int} {F : Int → SM → Prop} (H : ((l2 ≤ l3 → cm iv L h0 d 99 [vr 307] s (qv fun s1 => cm iv L h0 d 74 [vr 307, vi 0, vi (-9), vi (-9)] s1 (qi fun r3 s2 => cm iv L h0 d 77 [vr 307, vi (s1.1 16), vi r3] s2 (qv fun s4 => cm iv L h0 d 77 [vr 307, vi l1, vi (s1.1 16)] s4 (qv fun s5 => cm iv L h0 d 100 [vr 307, vi 0] s5 (qv fun s6 => F r3 s6)))))) ∧ (l3 < l2 → (0 ≤ l3 ∧ l3 < 80) ∧ (0 ≤ s.2 17 l3 ∧ s.2 17 l3 < 3004) ∧ ((s.2 9 (s.2 17 l3) ≠ 3 → (-2147483648 ≤ l3 + 1 ∧ l3 + 1 ≤ 2147483647) ∧ wm iv L h0 (d + 1) 112 66 [lr 307, li l1, li l2, li (l3 + 1)] [] s (qi F)) ∧ (s.2 9 (s.2 17 l3) = 3 → cm iv L h0 d 85 [vr 307, vi (s.2 17 l3), vi (s.2 10 (s.2 17 l3))] s (qi fun r11 s10 => ((r11 = (-9) → (0 ≤ s10.2 17 l3 ∧ s10.2 17 l3 < 3004) ∧ cm iv L h0 d 85 [vr 307, vi l1, vi (s10.2 10 (s10.2 17 l3))] s10 (qi fun r14 s13 => ((r14 = r11 → (-2147483648 ≤ l3 + 1 ∧ l3 + 1 ≤ 2147483647) ∧ wm iv L h0 (d + 1) 112 66 [lr 307, li l1, li l2, li (l3 + 1)] [] s13 (qi F)) ∧ (r14 ≠ r11 → F (-6) s13)))) ∧ (r11 ≠ (-9) → cm iv L h0 d 84 [vr 307, vi r11, vi (s10.1 16)] s10 (qi fun r17 s16 => ((r17 ≠ 0 → (-2147483648 ≤ l3 + 1 ∧ l3 + 1 ≤ 2147483647) ∧ wm iv L h0 (d + 1) 112 66 [lr 307, li l1, li l2, li (l3 + 1)] [] s16 (qi F)) ∧ (r17 = 0 → (0 ≤ s16.2 17 l3 ∧ s16.2 17 l3 < 3004) ∧ cm iv L h0 d 85 [vr 307, vi l1, vi (s16.2 10 (s16.2 17 l3))] s16 (qi fun r21 s20 => ((r21 = r11 → (-2147483648 ≤ l3 + 1 ∧ l3 + 1 ≤ 2147483647) ∧ wm iv L h0 (d + 1) 112 66 [lr 307, li l1, li l2, li (l3 + 1)] [] s20 (qi F)) ∧ (r21 ≠ r11 → F (-6) s20)))))))))))))) : wm iv L h0 (d + 1) 112 66 [lr 307, li l1, li l2, li l3] [] s (qi F) := by
  refine w_iload_n rfl rfl ?_
  refine w_iload_n rfl rfl ?_
  refine w_icmp_ge rfl (fun h => ?_) (fun h => ?_)
  · replace H := H.1 h
    refine w_aload_n rfl rfl ?_
    refine m_call (as := []) (r := []) rfl rfl rfl rfl rfl rfl (wc_mono H (Nat.le_refl _) ?_)
    rintro _ s1 ⟨rfl, H⟩
    show wm iv L h0 (d + 1) 112 175 [lr 307, li l1, li l2, li l3] [] s1 (qi F)
    refine w_aload_n rfl rfl ?_
    refine m_get rfl rfl ?_
    refine w_istore_n rfl rfl ?_
    refine w_aload_n rfl rfl ?_
    refine w_iconst (n := 0) rfl rfl ?_
    refine w_bipush (n := (-9)) rfl rfl rfl ?_
    refine w_bipush (n := (-9)) rfl rfl rfl ?_
    refine m_call (as := [vi 0, vi (-9), vi (-9)]) (r := []) rfl rfl rfl rfl rfl rfl (wc_mono H (Nat.le_refl _) ?_)
    rintro _ s2 ⟨r3, rfl, H⟩
    show wm iv L h0 (d + 1) 112 189 [lr 307, li l1, li l2, li (s1.1 16)] [vi r3] s2 (qi F)
    refine w_istore rfl rfl ?_
    refine w_aload_n rfl rfl ?_
    refine w_iload_n rfl rfl ?_
    refine w_iload rfl rfl ?_
    refine m_call (as := [vi (s1.1 16), vi r3]) (r := []) rfl rfl rfl rfl rfl rfl (wc_mono H (Nat.le_refl _) ?_)
    rintro _ s4 ⟨rfl, H⟩
    show wm iv L h0 (d + 1) 112 198 [lr 307, li l1, li l2, li (s1.1 16), li r3] [] s4 (qi F)
    refine w_aload_n rfl rfl ?_
    refine w_iload_n rfl rfl ?_
    refine w_iload_n rfl rfl ?_
    refine m_call (as := [vi l1, vi (s1.1 16)]) (r := []) rfl rfl rfl rfl rfl rfl (wc_mono H (Nat.le_refl _) ?_)
    rintro _ s5 ⟨rfl, H⟩
    show wm iv L h0 (d + 1) 112 204 [lr 307, li l1, li l2, li (s1.1 16), li r3] [] s5 (qi F)
    refine w_aload_n rfl rfl ?_
    refine w_iconst (n := 0) rfl rfl ?_
    refine m_call (as := [vi 0]) (r := []) rfl rfl rfl rfl rfl rfl (wc_mono H (Nat.le_refl _) ?_)
    rintro _ s6 ⟨rfl, H⟩
    show wm iv L h0 (d + 1) 112 209 [lr 307, li l1, li l2, li (s1.1 16), li r3] [] s6 (qi F)
    refine w_iload rfl rfl ?_
    exact w_iret rfl rfl ⟨_, rfl, H⟩
  · replace H := H.2 h
    refine w_aload_n rfl rfl ?_
    refine m_geta (t := 0) (k := 3004) rfl rfl ?_
    refine w_aload_n rfl rfl ?_
    refine m_geta (t := 0) (k := 80) rfl rfl ?_
    refine w_iload_n rfl rfl ?_
    obtain ⟨g7, H⟩ := H
    refine m_ald rfl (f := 17) (k := 80) rfl g7 ?_
    obtain ⟨g8, H⟩ := H
    refine m_ald rfl (f := 9) (k := 3004) rfl g8 ?_
    refine w_iconst (n := 3) rfl rfl ?_
    refine w_icmp_ne rfl (fun h => ?_) (fun h => ?_)
    · replace H := H.1 h
      obtain ⟨g9, H⟩ := H
      refine w_iinc rfl rfl rfl g9 ?_
      refine w_goto rfl ?_
      exact wp_ls (sl_s (sl_s (sl_s (sl_s (sl_0))))) H
    · replace H := H.2 h
      refine w_aload_n rfl rfl ?_
      refine w_aload_n rfl rfl ?_
      refine m_geta (t := 0) (k := 80) rfl rfl ?_
      refine w_iload_n rfl rfl ?_
      refine m_ald rfl (f := 17) (k := 80) rfl g7 ?_
      refine w_aload_n rfl rfl ?_
      refine m_geta (t := 0) (k := 3004) rfl rfl ?_
      refine w_aload_n rfl rfl ?_
      refine m_geta (t := 0) (k := 80) rfl rfl ?_
      refine w_iload_n rfl rfl ?_
      refine m_ald rfl (f := 17) (k := 80) rfl g7 ?_
      refine m_ald rfl (f := 10) (k := 3004) rfl g8 ?_
      refine m_call (as := [vi (s.2 17 l3), vi (s.2 10 (s.2 17 l3))]) (r := []) rfl rfl rfl rfl rfl rfl (wc_mono H (Nat.le_refl _) ?_)
      rintro _ s10 ⟨r11, rfl, H⟩
      show wm iv L h0 (d + 1) 112 107 [lr 307, li l1, li l2, li l3] [vi r11] s10 (qi F)
      refine w_istore rfl rfl ?_
      refine w_iload rfl rfl ?_
      refine w_bipush (n := (-9)) rfl rfl rfl ?_
      refine w_icmp_eq rfl (fun h => ?_) (fun h => ?_)
      · replace H := H.1 h
        refine w_iconst (n := 1) rfl rfl ?_
        refine w_goto rfl ?_
        refine w_istore rfl rfl ?_
        refine w_iload rfl rfl ?_
        refine w_if_eq rfl (fun h => absurd h (by decide)) (fun _ => ?_)
        refine w_aload_n rfl rfl ?_
        refine w_iload_n rfl rfl ?_
        refine w_aload_n rfl rfl ?_
        refine m_geta (t := 0) (k := 3004) rfl rfl ?_
        refine w_aload_n rfl rfl ?_
        refine m_geta (t := 0) (k := 80) rfl rfl ?_
        refine w_iload_n rfl rfl ?_
        refine m_ald rfl (f := 17) (k := 80) rfl g7 ?_
        obtain ⟨g12, H⟩ := H
        refine m_ald rfl (f := 10) (k := 3004) rfl g12 ?_
        refine m_call (as := [vi l1, vi (s10.2 10 (s10.2 17 l3))]) (r := []) rfl rfl rfl rfl rfl rfl (wc_mono H (Nat.le_refl _) ?_)
        rintro _ s13 ⟨r14, rfl, H⟩
        show wm iv L h0 (d + 1) 112 157 [lr 307, li l1, li l2, li l3, li r11, li 1] [vi r14] s13 (qi F)
        refine w_iload rfl rfl ?_
        refine w_icmp_eq rfl (fun h => ?_) (fun h => ?_)
        · replace H := H.1 h
          obtain ⟨g15, H⟩ := H
          refine w_iinc rfl rfl rfl g15 ?_
          refine w_goto rfl ?_
          exact wp_ls (sl_s (sl_s (sl_s (sl_s (sl_0))))) H
        · replace H := H.2 h
          refine w_bipush (n := (-6)) rfl rfl rfl ?_
          exact w_iret rfl rfl ⟨_, rfl, H⟩
      · replace H := H.2 h
        refine w_aload_n rfl rfl ?_
        refine w_iload rfl rfl ?_
        refine w_aload_n rfl rfl ?_
        refine m_get rfl rfl ?_
        refine m_call (as := [vi r11, vi (s10.1 16)]) (r := []) rfl rfl rfl rfl rfl rfl (wc_mono H (Nat.le_refl _) ?_)
        rintro _ s16 ⟨r17, rfl, H⟩
        show wm iv L h0 (d + 1) 112 126 [lr 307, li l1, li l2, li l3, li r11] [vi r17] s16 (qi F)
        refine w_if_ne rfl (fun h => ?_) (fun h => ?_)
        · replace H := H.1 h
          refine w_iconst (n := 0) rfl rfl ?_
          refine w_istore rfl rfl ?_
          refine w_iload rfl rfl ?_
          refine w_if_eq rfl (fun _ => ?_) (fun h => absurd h (by decide))
          obtain ⟨g18, H⟩ := H
          refine w_iinc rfl rfl rfl g18 ?_
          refine w_goto rfl ?_
          exact wp_ls (sl_s (sl_s (sl_s (sl_s (sl_0))))) H
        · replace H := H.2 h
          refine w_iconst (n := 1) rfl rfl ?_
          refine w_goto rfl ?_
          refine w_istore rfl rfl ?_
          refine w_iload rfl rfl ?_
          refine w_if_eq rfl (fun h => absurd h (by decide)) (fun _ => ?_)
          refine w_aload_n rfl rfl ?_
          refine w_iload_n rfl rfl ?_
          refine w_aload_n rfl rfl ?_
          refine m_geta (t := 0) (k := 3004) rfl rfl ?_
          refine w_aload_n rfl rfl ?_
          refine m_geta (t := 0) (k := 80) rfl rfl ?_
          refine w_iload_n rfl rfl ?_
          refine m_ald rfl (f := 17) (k := 80) rfl g7 ?_
          obtain ⟨g19, H⟩ := H
          refine m_ald rfl (f := 10) (k := 3004) rfl g19 ?_
          refine m_call (as := [vi l1, vi (s16.2 10 (s16.2 17 l3))]) (r := []) rfl rfl rfl rfl rfl rfl (wc_mono H (Nat.le_refl _) ?_)
          rintro _ s20 ⟨r21, rfl, H⟩
          show wm iv L h0 (d + 1) 112 157 [lr 307, li l1, li l2, li l3, li r11, li 1] [vi r21] s20 (qi F)
          refine w_iload rfl rfl ?_
          refine w_icmp_eq rfl (fun h => ?_) (fun h => ?_)
          · replace H := H.1 h
            obtain ⟨g22, H⟩ := H
            refine w_iinc rfl rfl rfl g22 ?_
            refine w_goto rfl ?_
            exact wp_ls (sl_s (sl_s (sl_s (sl_s (sl_0))))) H
          · replace H := H.2 h
            refine w_bipush (n := (-6)) rfl rfl rfl ?_
            exact w_iret rfl rfl ⟨_, rfl, H⟩

/-- HoleDeskModel.shelve(I)I -/
theorem B113 {iv : List (Int × Int)} {L : Nat} {h0 : MH} {d : Nat} {s : SM} {a1 : Int} {F : Int → SM → Prop} (H : ((0 ≤ a1 ∧ a1 ≤ 5 → cm iv L h0 d 81 [vr 307, vi (s.1 16)] s (qi fun r2 s1 => (0 ≤ a1 ∧ a1 < 6) ∧ wm iv L h0 (d + 1) 113 29 [lr 307, li a1, li r2, li 0] [] (ua s1 37 a1 r2) (qi F))) ∧ (a1 < 0 ∨ 5 < a1 → F (-1) s))) : cm iv L h0 (d + 1) 113 [vr 307, vi a1] s (qi F) := by
  show wm iv L h0 (d + 1) 113 0 [lr 307, li a1] [] s (qi F)
  refine w_iload_n rfl rfl ?_
  refine w_iconst (n := 0) rfl rfl ?_
  refine w_iconst (n := 5) rfl rfl ?_
  refine w_static (as := [vi a1, vi 0, vi 5]) (r := []) rfl rfl rfl rfl rfl (m_in (fun h => ?_) (fun h => ?_))
  · show wm iv L h0 (d + 1) 113 6 [lr 307, li a1] [vi 1] s (qi F)
    replace H := H.1 h
    refine w_if_ne rfl (fun _ => ?_) (fun h => absurd h (by decide))
    refine w_aload_n rfl rfl ?_
    refine w_aload_n rfl rfl ?_
    refine m_get rfl rfl ?_
    refine m_call (as := [vi (s.1 16)]) (r := []) rfl rfl rfl rfl rfl rfl (wc_mono H (Nat.le_refl _) ?_)
    rintro _ s1 ⟨r2, rfl, H⟩
    show wm iv L h0 (d + 1) 113 19 [lr 307, li a1] [vi r2] s1 (qi F)
    refine w_istore_n rfl rfl ?_
    refine w_aload_n rfl rfl ?_
    refine m_geta (t := 0) (k := 6) rfl rfl ?_
    refine w_iload_n rfl rfl ?_
    refine w_iload_n rfl rfl ?_
    obtain ⟨g3, H⟩ := H
    refine m_ast rfl (f := 37) (k := 6) rfl g3 ?_
    refine w_iconst (n := 0) rfl rfl ?_
    refine w_istore_n rfl rfl ?_
    exact wp_ls (sl_s (sl_s (sl_s (sl_s (sl_0))))) H
  · show wm iv L h0 (d + 1) 113 6 [lr 307, li a1] [vi 0] s (qi F)
    replace H := H.2 h
    refine w_if_ne rfl (fun h => absurd h (by decide)) (fun _ => ?_)
    refine w_iconst (n := (-1)) rfl rfl ?_
    exact w_iret rfl rfl ⟨_, rfl, H⟩

/-- HoleDeskModel.shelve(I)I at 29 -/
theorem B113_29 {iv : List (Int × Int)} {L : Nat} {h0 : MH} {d : Nat} {s : SM} {l1 : Int} {l2 : Int} {l3 : Int} {F : Int → SM → Prop} (H : ((l2 ≤ l3 → F l2 s) ∧ (l3 < l2 → (-2147483648 ≤ 60 * l1 ∧ 60 * l1 ≤ 2147483647) ∧ (-2147483648 ≤ (60 * l1) + l3 ∧ (60 * l1) + l3 ≤ 2147483647) ∧ (0 ≤ l3 ∧ l3 < 80) ∧ (0 ≤ s.2 17 l3 ∧ s.2 17 l3 < 3004) ∧ (0 ≤ (60 * l1) + l3 ∧ (60 * l1) + l3 < 360) ∧ (-2147483648 ≤ l3 + 1 ∧ l3 + 1 ≤ 2147483647) ∧ wm iv L h0 (d + 1) 113 29 [lr 307, li l1, li l2, li (l3 + 1)] [] (ua (ua (ua s 38 ((60 * l1) + l3) (s.2 9 (s.2 17 l3))) 39 ((60 * l1) + l3) (s.2 10 (s.2 17 l3))) 40 ((60 * l1) + l3) (s.2 11 (s.2 17 l3))) (qi F)))) : wm iv L h0 (d + 1) 113 29 [lr 307, li l1, li l2, li l3] [] s (qi F) := by
  refine w_iload_n rfl rfl ?_
  refine w_iload_n rfl rfl ?_
  refine w_icmp_ge rfl (fun h => ?_) (fun h => ?_)
  · replace H := H.1 h
    refine w_iload_n rfl rfl ?_
    exact w_iret rfl rfl ⟨_, rfl, H⟩
  · replace H := H.2 h
    refine w_aload_n rfl rfl ?_
    refine m_geta (t := 0) (k := 360) rfl rfl ?_
    refine w_bipush (n := 60) rfl rfl rfl ?_
    refine w_iload_n rfl rfl ?_
    obtain ⟨g1, H⟩ := H
    refine w_imul rfl g1 ?_
    refine w_iload_n rfl rfl ?_
    obtain ⟨g2, H⟩ := H
    refine w_iadd rfl g2 ?_
    refine w_aload_n rfl rfl ?_
    refine m_geta (t := 0) (k := 3004) rfl rfl ?_
    refine w_aload_n rfl rfl ?_
    refine m_geta (t := 0) (k := 80) rfl rfl ?_
    refine w_iload_n rfl rfl ?_
    obtain ⟨g3, H⟩ := H
    refine m_ald rfl (f := 17) (k := 80) rfl g3 ?_
    obtain ⟨g4, H⟩ := H
    refine m_ald rfl (f := 9) (k := 3004) rfl g4 ?_
    obtain ⟨g5, H⟩ := H
    refine m_ast rfl (f := 38) (k := 360) rfl g5 ?_
    refine w_aload_n rfl rfl ?_
    refine m_geta (t := 0) (k := 360) rfl rfl ?_
    refine w_bipush (n := 60) rfl rfl rfl ?_
    refine w_iload_n rfl rfl ?_
    refine w_imul rfl g1 ?_
    refine w_iload_n rfl rfl ?_
    refine w_iadd rfl g2 ?_
    refine w_aload_n rfl rfl ?_
    refine m_geta (t := 0) (k := 3004) rfl rfl ?_
    refine w_aload_n rfl rfl ?_
    refine m_geta (t := 0) (k := 80) rfl rfl ?_
    refine w_iload_n rfl rfl ?_
    refine m_ald rfl (f := 17) (k := 80) rfl g3 ?_
    show wm iv L h0 (d + 1) 113 76 [lr 307, li l1, li l2, li l3] [vi (s.2 17 l3), vr 314, vi ((60 * l1) + l3), vr 335] (ua s 38 ((60 * l1) + l3) (s.2 9 (s.2 17 l3))) (qi F)
    refine m_ald rfl (f := 10) (k := 3004) rfl g4 ?_
    show wm iv L h0 (d + 1) 113 77 [lr 307, li l1, li l2, li l3] [vi (s.2 10 (s.2 17 l3)), vi ((60 * l1) + l3), vr 335] (ua s 38 ((60 * l1) + l3) (s.2 9 (s.2 17 l3))) (qi F)
    refine m_ast rfl (f := 39) (k := 360) rfl g5 ?_
    refine w_aload_n rfl rfl ?_
    refine m_geta (t := 0) (k := 360) rfl rfl ?_
    refine w_bipush (n := 60) rfl rfl rfl ?_
    refine w_iload_n rfl rfl ?_
    refine w_imul rfl g1 ?_
    refine w_iload_n rfl rfl ?_
    refine w_iadd rfl g2 ?_
    refine w_aload_n rfl rfl ?_
    refine m_geta (t := 0) (k := 3004) rfl rfl ?_
    refine w_aload_n rfl rfl ?_
    refine m_geta (t := 0) (k := 80) rfl rfl ?_
    refine w_iload_n rfl rfl ?_
    refine m_ald rfl (f := 17) (k := 80) rfl g3 ?_
    show wm iv L h0 (d + 1) 113 98 [lr 307, li l1, li l2, li l3] [vi (s.2 17 l3), vr 315, vi ((60 * l1) + l3), vr 336] (ua (ua s 38 ((60 * l1) + l3) (s.2 9 (s.2 17 l3))) 39 ((60 * l1) + l3) (s.2 10 (s.2 17 l3))) (qi F)
    refine m_ald rfl (f := 11) (k := 3004) rfl g4 ?_
    show wm iv L h0 (d + 1) 113 99 [lr 307, li l1, li l2, li l3] [vi (s.2 11 (s.2 17 l3)), vi ((60 * l1) + l3), vr 336] (ua (ua s 38 ((60 * l1) + l3) (s.2 9 (s.2 17 l3))) 39 ((60 * l1) + l3) (s.2 10 (s.2 17 l3))) (qi F)
    refine m_ast rfl (f := 40) (k := 360) rfl g5 ?_
    obtain ⟨g6, H⟩ := H
    refine w_iinc rfl rfl rfl g6 ?_
    refine w_goto rfl ?_
    exact wp_ls (sl_s (sl_s (sl_s (sl_s (sl_0))))) H

/-- HoleDeskModel.bornFrom(I)I -/
theorem B114 {iv : List (Int × Int)} {L : Nat} {h0 : MH} {d : Nat} {s : SM} {a1 : Int} {F : Int → SM → Prop} (H : (-2147483648 ≤ 60 * a1 ∧ 60 * a1 ≤ 2147483647) ∧ (-2147483648 ≤ (60 * a1) + (s.1 41) ∧ (60 * a1) + (s.1 41) ≤ 2147483647) ∧ (-2147483648 ≤ (s.1 41) + 1 ∧ (s.1 41) + 1 ≤ 2147483647) ∧ (0 ≤ (60 * a1) + (s.1 41) ∧ (60 * a1) + (s.1 41) < 360) ∧ cm iv L h0 d 74 [vr 307, vi (s.2 38 ((60 * a1) + (s.1 41))), vi (s.2 39 ((60 * a1) + (s.1 41))), vi (s.2 40 ((60 * a1) + (s.1 41)))] (us s 41 ((s.1 41) + 1)) (qi fun r6 s5 => wm iv L h0 (d + 1) 114 46 [lr 307, li a1, ln, li r6, li 0] [] s5 (qi F))) : cm iv L h0 (d + 1) 114 [vr 307, vi a1] s (qi F) := by
  show wm iv L h0 (d + 1) 114 0 [lr 307, li a1] [] s (qi F)
  refine w_bipush (n := 60) rfl rfl rfl ?_
  refine w_iload_n rfl rfl ?_
  obtain ⟨g1, H⟩ := H
  refine w_imul rfl g1 ?_
  refine w_aload_n rfl rfl ?_
  refine m_get rfl rfl ?_
  obtain ⟨g2, H⟩ := H
  refine w_iadd rfl g2 ?_
  refine w_istore_n rfl rfl ?_
  refine w_aload_n rfl rfl ?_
  refine w_dup rfl rfl ?_
  refine m_get rfl rfl ?_
  refine w_iconst (n := 1) rfl rfl ?_
  obtain ⟨g3, H⟩ := H
  refine w_iadd rfl g3 ?_
  refine m_put rfl rfl rfl ?_
  refine w_aload_n rfl rfl ?_
  refine w_aload_n rfl rfl ?_
  refine m_geta (t := 0) (k := 360) rfl rfl ?_
  refine w_iload_n rfl rfl ?_
  obtain ⟨g4, H⟩ := H
  refine m_ald rfl (f := 38) (k := 360) rfl g4 ?_
  show wm iv L h0 (d + 1) 114 27 [lr 307, li a1, li ((60 * a1) + (s.1 41))] [vi (s.2 38 ((60 * a1) + (s.1 41))), vr 307] (us s 41 ((s.1 41) + 1)) (qi F)
  refine w_aload_n rfl rfl ?_
  refine m_geta (t := 0) (k := 360) rfl rfl ?_
  refine w_iload_n rfl rfl ?_
  refine m_ald rfl (f := 39) (k := 360) rfl g4 ?_
  show wm iv L h0 (d + 1) 114 33 [lr 307, li a1, li ((60 * a1) + (s.1 41))] [vi (s.2 39 ((60 * a1) + (s.1 41))), vi (s.2 38 ((60 * a1) + (s.1 41))), vr 307] (us s 41 ((s.1 41) + 1)) (qi F)
  refine w_aload_n rfl rfl ?_
  refine m_geta (t := 0) (k := 360) rfl rfl ?_
  refine w_iload_n rfl rfl ?_
  refine m_ald rfl (f := 40) (k := 360) rfl g4 ?_
  show wm iv L h0 (d + 1) 114 39 [lr 307, li a1, li ((60 * a1) + (s.1 41))] [vi (s.2 40 ((60 * a1) + (s.1 41))), vi (s.2 39 ((60 * a1) + (s.1 41))), vi (s.2 38 ((60 * a1) + (s.1 41))), vr 307] (us s 41 ((s.1 41) + 1)) (qi F)
  refine m_call (as := [vi (s.2 38 ((60 * a1) + (s.1 41))), vi (s.2 39 ((60 * a1) + (s.1 41))), vi (s.2 40 ((60 * a1) + (s.1 41)))]) (r := []) rfl rfl rfl rfl rfl rfl (wc_mono H (Nat.le_refl _) ?_)
  rintro _ s5 ⟨r6, rfl, H⟩
  show wm iv L h0 (d + 1) 114 42 [lr 307, li a1, li ((60 * a1) + (s.1 41))] [vi r6] s5 (qi F)
  refine w_istore_n rfl rfl ?_
  refine w_iconst (n := 0) rfl rfl ?_
  refine w_istore rfl rfl ?_
  exact wp_ls (sl_s (sl_s (sl_n (sl_s (sl_s (sl_0)))))) H

/-- HoleDeskModel.bornFrom(I)I at 46 -/
theorem B114_46 {iv : List (Int × Int)} {L : Nat} {h0 : MH} {d : Nat} {s : SM} {l1 : Int} {l3 : Int} {l4 : Int} {F : Int → SM → Prop} (H : (0 ≤ l3 ∧ l3 < 3004) ∧ (0 ≤ s.2 9 l3 ∧ s.2 9 l3 < 16) ∧ ((pO (s.2 9 l3) ≤ l4 → F l3 s) ∧ (l4 < pO (s.2 9 l3) → cm iv L h0 d 114 [vr 307, vi l1] s (qi fun r4 s3 => cm iv L h0 d 76 [vr 307, vi l3, vi l4, vi r4] s3 (qv fun s5 => (-2147483648 ≤ l4 + 1 ∧ l4 + 1 ≤ 2147483647) ∧ wm iv L h0 (d + 1) 114 46 [lr 307, li l1, ln, li l3, li (l4 + 1)] [] s5 (qi F)))))) : wm iv L h0 (d + 1) 114 46 [lr 307, li l1, ln, li l3, li l4] [] s (qi F) := by
  refine w_iload rfl rfl ?_
  refine w_aload_n rfl rfl ?_
  refine m_geta (t := 0) (k := 3004) rfl rfl ?_
  refine w_iload_n rfl rfl ?_
  obtain ⟨g1, H⟩ := H
  refine m_ald rfl (f := 9) (k := 3004) rfl g1 ?_
  obtain ⟨g2, H⟩ := H
  refine w_static (as := [vi (s.2 9 l3)]) (r := [vi l4]) rfl rfl rfl rfl rfl (m_parts g2 ?_)
  show wm iv L h0 (d + 1) 114 57 [lr 307, li l1, ln, li l3, li l4] [vi (pO (s.2 9 l3)), vi l4] s (qi F)
  refine w_icmp_ge rfl (fun h => ?_) (fun h => ?_)
  · replace H := H.1 h
    refine w_iload_n rfl rfl ?_
    exact w_iret rfl rfl ⟨_, rfl, H⟩
  · replace H := H.2 h
    refine w_aload_n rfl rfl ?_
    refine w_iload_n rfl rfl ?_
    refine w_iload rfl rfl ?_
    refine w_aload_n rfl rfl ?_
    refine w_iload_n rfl rfl ?_
    refine m_call (as := [vi l1]) (r := [vi l4, vi l3, vr 307]) rfl rfl rfl rfl rfl rfl (wc_mono H (Nat.le_refl _) ?_)
    rintro _ s3 ⟨r4, rfl, H⟩
    show wm iv L h0 (d + 1) 114 69 [lr 307, li l1, ln, li l3, li l4] [vi r4, vi l4, vi l3, vr 307] s3 (qi F)
    refine m_call (as := [vi l3, vi l4, vi r4]) (r := []) rfl rfl rfl rfl rfl rfl (wc_mono H (Nat.le_refl _) ?_)
    rintro _ s5 ⟨rfl, H⟩
    show wm iv L h0 (d + 1) 114 72 [lr 307, li l1, ln, li l3, li l4] [] s5 (qi F)
    obtain ⟨g6, H⟩ := H
    refine w_iinc rfl rfl rfl g6 ?_
    refine w_goto rfl ?_
    exact wp_ls (sl_s (sl_s (sl_n (sl_s (sl_s (sl_0)))))) H

/-- HoleDeskModel.fill(I)I -/
theorem B115 {iv : List (Int × Int)} {L : Nat} {h0 : MH} {d : Nat} {s : SM} {a1 : Int} {F : Int → SM → Prop} (H : ((0 ≤ a1 ∧ a1 ≤ 5 → (0 ≤ s.1 16 ∧ s.1 16 < 3004) ∧ ((s.2 9 (s.1 16) = 0 → (0 ≤ a1 ∧ a1 < 6) ∧ ((s.2 37 a1 ≠ 0 → cm iv L h0 d 82 [vr 307] s (qi fun r4 s3 => (-2147483648 ≤ r4 - 1 ∧ r4 - 1 ≤ 2147483647) ∧ (-2147483648 ≤ (r4 - 1) + (s3.2 37 a1) ∧ (r4 - 1) + (s3.2 37 a1) ≤ 2147483647) ∧ ((60 < (r4 - 1) + (s3.2 37 a1) → F (-2) s3) ∧ ((r4 - 1) + (s3.2 37 a1) ≤ 60 → (-2147483648 ≤ (s3.1 8) + (s3.2 37 a1) ∧ (s3.1 8) + (s3.2 37 a1) ≤ 2147483647) ∧ (((s3.1 8) + (s3.2 37 a1) ≤ 3000 → cm iv L h0 d 99 [vr 307] s3 (qv fun s8 => cm iv L h0 d 114 [vr 307, vi a1] (us s8 41 0) (qi fun r10 s9 => cm iv L h0 d 77 [vr 307, vi (s8.1 16), vi r10] s9 (qv fun s11 => (-2147483648 ≤ r10 + 1 ∧ r10 + 1 ≤ 2147483647) ∧ (0 ≤ s8.1 16 ∧ s8.1 16 < 3004) ∧ cm iv L h0 d 100 [vr 307, vi 1] (us (ua s11 42 (s8.1 16) (r10 + 1)) 16 r10) (qv fun s14 => F r10 s14))))) ∧ (3000 < (s3.1 8) + (s3.2 37 a1) → F (-2) s3)))))) ∧ (s.2 37 a1 = 0 → cm iv L h0 d 61 [vr 307, vi 1] s (qi fun r16 s15 => F r16 s15)))) ∧ (s.2 9 (s.1 16) ≠ 0 → F (-4) s))) ∧ (a1 < 0 ∨ 5 < a1 → F (-1) s))) : cm iv L h0 (d + 1) 115 [vr 307, vi a1] s (qi F) := by
  show wm iv L h0 (d + 1) 115 0 [lr 307, li a1] [] s (qi F)
  refine w_iload_n rfl rfl ?_
  refine w_iconst (n := 0) rfl rfl ?_
  refine w_iconst (n := 5) rfl rfl ?_
  refine w_static (as := [vi a1, vi 0, vi 5]) (r := []) rfl rfl rfl rfl rfl (m_in (fun h => ?_) (fun h => ?_))
  · show wm iv L h0 (d + 1) 115 6 [lr 307, li a1] [vi 1] s (qi F)
    replace H := H.1 h
    refine w_if_ne rfl (fun _ => ?_) (fun h => absurd h (by decide))
    refine w_aload_n rfl rfl ?_
    refine m_geta (t := 0) (k := 3004) rfl rfl ?_
    refine w_aload_n rfl rfl ?_
    refine m_get rfl rfl ?_
    obtain ⟨g1, H⟩ := H
    refine m_ald rfl (f := 9) (k := 3004) rfl g1 ?_
    refine w_if_eq rfl (fun h => ?_) (fun h => ?_)
    · replace H := H.1 h
      refine w_aload_n rfl rfl ?_
      refine m_geta (t := 0) (k := 6) rfl rfl ?_
      refine w_iload_n rfl rfl ?_
      obtain ⟨g2, H⟩ := H
      refine m_ald rfl (f := 37) (k := 6) rfl g2 ?_
      refine w_if_ne rfl (fun h => ?_) (fun h => ?_)
      · replace H := H.1 h
        refine w_aload_n rfl rfl ?_
        refine m_call (as := []) (r := []) rfl rfl rfl rfl rfl rfl (wc_mono H (Nat.le_refl _) ?_)
        rintro _ s3 ⟨r4, rfl, H⟩
        show wm iv L h0 (d + 1) 115 45 [lr 307, li a1] [vi r4] s3 (qi F)
        refine w_iconst (n := 1) rfl rfl ?_
        obtain ⟨g5, H⟩ := H
        refine w_isub rfl g5 ?_
        refine w_aload_n rfl rfl ?_
        refine m_geta (t := 0) (k := 6) rfl rfl ?_
        refine w_iload_n rfl rfl ?_
        refine m_ald rfl (f := 37) (k := 6) rfl g2 ?_
        obtain ⟨g6, H⟩ := H
        refine w_iadd rfl g6 ?_
        refine w_bipush (n := 60) rfl rfl rfl ?_
        refine w_icmp_gt rfl (fun h => ?_) (fun h => ?_)
        · replace H := H.1 h
          refine w_bipush (n := (-2)) rfl rfl rfl ?_
          exact w_iret rfl rfl ⟨_, rfl, H⟩
        · replace H := H.2 h
          refine w_aload_n rfl rfl ?_
          refine m_get rfl rfl ?_
          refine w_aload_n rfl rfl ?_
          refine m_geta (t := 0) (k := 6) rfl rfl ?_
          refine w_iload_n rfl rfl ?_
          refine m_ald rfl (f := 37) (k := 6) rfl g2 ?_
          obtain ⟨g7, H⟩ := H
          refine w_iadd rfl g7 ?_
          refine w_sipush (n := 3000) rfl rfl rfl ?_
          refine w_icmp_le rfl (fun h => ?_) (fun h => ?_)
          · replace H := H.1 h
            refine w_aload_n rfl rfl ?_
            refine m_call (as := []) (r := []) rfl rfl rfl rfl rfl rfl (wc_mono H (Nat.le_refl _) ?_)
            rintro _ s8 ⟨rfl, H⟩
            show wm iv L h0 (d + 1) 115 83 [lr 307, li a1] [] s8 (qi F)
            refine w_aload_n rfl rfl ?_
            refine w_iconst (n := 0) rfl rfl ?_
            refine m_put rfl rfl rfl ?_
            refine w_aload_n rfl rfl ?_
            refine m_get rfl rfl ?_
            show wm iv L h0 (d + 1) 115 92 [lr 307, li a1] [vi (s8.1 16)] (us s8 41 0) (qi F)
            refine w_istore_n rfl rfl ?_
            refine w_aload_n rfl rfl ?_
            refine w_iload_n rfl rfl ?_
            refine m_call (as := [vi a1]) (r := []) rfl rfl rfl rfl rfl rfl (wc_mono H (Nat.le_refl _) ?_)
            rintro _ s9 ⟨r10, rfl, H⟩
            show wm iv L h0 (d + 1) 115 98 [lr 307, li a1, li (s8.1 16)] [vi r10] s9 (qi F)
            refine w_istore_n rfl rfl ?_
            refine w_aload_n rfl rfl ?_
            refine w_iload_n rfl rfl ?_
            refine w_iload_n rfl rfl ?_
            refine m_call (as := [vi (s8.1 16), vi r10]) (r := []) rfl rfl rfl rfl rfl rfl (wc_mono H (Nat.le_refl _) ?_)
            rintro _ s11 ⟨rfl, H⟩
            show wm iv L h0 (d + 1) 115 105 [lr 307, li a1, li (s8.1 16), li r10] [] s11 (qi F)
            refine w_aload_n rfl rfl ?_
            refine m_geta (t := 0) (k := 3004) rfl rfl ?_
            refine w_iload_n rfl rfl ?_
            refine w_iload_n rfl rfl ?_
            refine w_iconst (n := 1) rfl rfl ?_
            obtain ⟨g12, H⟩ := H
            refine w_iadd rfl g12 ?_
            obtain ⟨g13, H⟩ := H
            refine m_ast rfl (f := 42) (k := 3004) rfl g13 ?_
            refine w_aload_n rfl rfl ?_
            refine w_iload_n rfl rfl ?_
            refine m_put rfl rfl rfl ?_
            refine w_aload_n rfl rfl ?_
            refine w_iconst (n := 1) rfl rfl ?_
            refine m_call (as := [vi 1]) (r := []) rfl rfl rfl rfl rfl rfl (wc_mono H (Nat.le_refl _) ?_)
            rintro _ s14 ⟨rfl, H⟩
            show wm iv L h0 (d + 1) 115 124 [lr 307, li a1, li (s8.1 16), li r10] [] s14 (qi F)
            refine w_iload_n rfl rfl ?_
            exact w_iret rfl rfl ⟨_, rfl, H⟩
          · replace H := H.2 h
            refine w_bipush (n := (-2)) rfl rfl rfl ?_
            exact w_iret rfl rfl ⟨_, rfl, H⟩
      · replace H := H.2 h
        refine w_aload_n rfl rfl ?_
        refine w_iconst (n := 1) rfl rfl ?_
        refine m_call (as := [vi 1]) (r := []) rfl rfl rfl rfl rfl rfl (wc_mono H (Nat.le_refl _) ?_)
        rintro _ s15 ⟨r16, rfl, H⟩
        show wm iv L h0 (d + 1) 115 40 [lr 307, li a1] [vi r16] s15 (qi F)
        exact w_iret rfl rfl ⟨_, rfl, H⟩
    · replace H := H.2 h
      refine w_bipush (n := (-4)) rfl rfl rfl ?_
      exact w_iret rfl rfl ⟨_, rfl, H⟩
  · show wm iv L h0 (d + 1) 115 6 [lr 307, li a1] [vi 0] s (qi F)
    replace H := H.2 h
    refine w_if_ne rfl (fun h => absurd h (by decide)) (fun _ => ?_)
    refine w_iconst (n := (-1)) rfl rfl ?_
    exact w_iret rfl rfl ⟨_, rfl, H⟩

/-- HoleDeskModel.isOffered(II)Z -/
theorem B116 {iv : List (Int × Int)} {L : Nat} {h0 : MH} {d : Nat} {s : SM} {a1 : Int} {a2 : Int} {F : Int → SM → Prop} (H : cm iv L h0 d 75 [vr 307, vi 3000, vi a1, vi a2, vi 0] s (qv fun s1 => cm iv L h0 d 77 [vr 307, vi (s.1 16), vi 3000] s1 (qv fun s2 => wm iv L h0 (d + 1) 116 26 [lr 307, li a1, ln, li (s.1 16), li 0] [] s2 (qi F)))) : cm iv L h0 (d + 1) 116 [vr 307, vi a1, vi a2] s (qi F) := by
  show wm iv L h0 (d + 1) 116 0 [lr 307, li a1, li a2] [] s (qi F)
  refine w_aload_n rfl rfl ?_
  refine m_get rfl rfl ?_
  refine w_istore_n rfl rfl ?_
  refine w_aload_n rfl rfl ?_
  refine w_sipush (n := 3000) rfl rfl rfl ?_
  refine w_iload_n rfl rfl ?_
  refine w_iload_n rfl rfl ?_
  refine w_iconst (n := 0) rfl rfl ?_
  refine m_call (as := [vi 3000, vi a1, vi a2, vi 0]) (r := []) rfl rfl rfl rfl rfl rfl (wc_mono H (Nat.le_refl _) ?_)
  rintro _ s1 ⟨rfl, H⟩
  show wm iv L h0 (d + 1) 116 15 [lr 307, li a1, li a2, li (s.1 16)] [] s1 (qi F)
  refine w_aload_n rfl rfl ?_
  refine w_iload_n rfl rfl ?_
  refine w_sipush (n := 3000) rfl rfl rfl ?_
  refine m_call (as := [vi (s.1 16), vi 3000]) (r := []) rfl rfl rfl rfl rfl rfl (wc_mono H (Nat.le_refl _) ?_)
  rintro _ s2 ⟨rfl, H⟩
  show wm iv L h0 (d + 1) 116 23 [lr 307, li a1, li a2, li (s.1 16)] [] s2 (qi F)
  refine w_iconst (n := 0) rfl rfl ?_
  refine w_istore rfl rfl ?_
  exact wp_ls (sl_s (sl_s (sl_n (sl_s (sl_s (sl_0)))))) H

/-- HoleDeskModel.isOffered(II)Z at 26 -/
theorem B116_26 {iv : List (Int × Int)} {L : Nat} {h0 : MH} {d : Nat} {s : SM} {l1 : Int} {l3 : Int} {l4 : Int} {F : Int → SM → Prop} (H : (0 ≤ l1 ∧ l1 < 16) ∧ ((pO l1 ≤ l4 → cm iv L h0 d 86 [vr 307] s (qv fun s2 => ((s2.2 21 3000 ≠ 0 → cm iv L h0 d 77 [vr 307, vi 3000, vi l3] s2 (qv fun s3 => F 0 s3)) ∧ (s2.2 21 3000 = 0 → cm iv L h0 d 77 [vr 307, vi 3000, vi l3] s2 (qv fun s4 => F 1 s4))))) ∧ (l4 < pO l1 → (-2147483648 ≤ 3001 + l4 ∧ 3001 + l4 ≤ 2147483647) ∧ cm iv L h0 d 75 [vr 307, vi (3001 + l4), vi 0, vi (-9), vi (-9)] s (qv fun s6 => cm iv L h0 d 76 [vr 307, vi 3000, vi l4, vi (3001 + l4)] s6 (qv fun s7 => (-2147483648 ≤ l4 + 1 ∧ l4 + 1 ≤ 2147483647) ∧ wm iv L h0 (d + 1) 116 26 [lr 307, li l1, ln, li l3, li (l4 + 1)] [] s7 (qi F)))))) : wm iv L h0 (d + 1) 116 26 [lr 307, li l1, ln, li l3, li l4] [] s (qi F) := by
  refine w_iload rfl rfl ?_
  refine w_iload_n rfl rfl ?_
  obtain ⟨g1, H⟩ := H
  refine w_static (as := [vi l1]) (r := [vi l4]) rfl rfl rfl rfl rfl (m_parts g1 ?_)
  show wm iv L h0 (d + 1) 116 32 [lr 307, li l1, ln, li l3, li l4] [vi (pO l1), vi l4] s (qi F)
  refine w_icmp_ge rfl (fun h => ?_) (fun h => ?_)
  · replace H := H.1 h
    refine w_aload_n rfl rfl ?_
    refine m_call (as := []) (r := []) rfl rfl rfl rfl rfl rfl (wc_mono H (Nat.le_refl _) ?_)
    rintro _ s2 ⟨rfl, H⟩
    show wm iv L h0 (d + 1) 116 75 [lr 307, li l1, ln, li l3, li l4] [] s2 (qi F)
    refine w_aload_n rfl rfl ?_
    refine m_geta (t := 0) (k := 3004) rfl rfl ?_
    refine w_sipush (n := 3000) rfl rfl rfl ?_
    refine m_ald rfl (f := 21) (k := 3004) rfl ⟨by decide, by decide⟩ ?_
    refine w_if_ne rfl (fun h => ?_) (fun h => ?_)
    · replace H := H.1 h
      refine w_iconst (n := 0) rfl rfl ?_
      refine w_istore rfl rfl ?_
      refine w_aload_n rfl rfl ?_
      refine w_sipush (n := 3000) rfl rfl rfl ?_
      refine w_iload_n rfl rfl ?_
      refine m_call (as := [vi 3000, vi l3]) (r := []) rfl rfl rfl rfl rfl rfl (wc_mono H (Nat.le_refl _) ?_)
      rintro _ s3 ⟨rfl, H⟩
      show wm iv L h0 (d + 1) 116 101 [lr 307, li l1, ln, li l3, li 0] [] s3 (qi F)
      refine w_iload rfl rfl ?_
      exact w_iretz rfl rfl (by decide) ⟨_, rfl, H⟩
    · replace H := H.2 h
      refine w_iconst (n := 1) rfl rfl ?_
      refine w_goto rfl ?_
      refine w_istore rfl rfl ?_
      refine w_aload_n rfl rfl ?_
      refine w_sipush (n := 3000) rfl rfl rfl ?_
      refine w_iload_n rfl rfl ?_
      refine m_call (as := [vi 3000, vi l3]) (r := []) rfl rfl rfl rfl rfl rfl (wc_mono H (Nat.le_refl _) ?_)
      rintro _ s4 ⟨rfl, H⟩
      show wm iv L h0 (d + 1) 116 101 [lr 307, li l1, ln, li l3, li 1] [] s4 (qi F)
      refine w_iload rfl rfl ?_
      exact w_iretz rfl rfl (by decide) ⟨_, rfl, H⟩
  · replace H := H.2 h
    refine w_aload_n rfl rfl ?_
    refine w_sipush (n := 3001) rfl rfl rfl ?_
    refine w_iload rfl rfl ?_
    obtain ⟨g5, H⟩ := H
    refine w_iadd rfl g5 ?_
    refine w_iconst (n := 0) rfl rfl ?_
    refine w_bipush (n := (-9)) rfl rfl rfl ?_
    refine w_bipush (n := (-9)) rfl rfl rfl ?_
    refine m_call (as := [vi (3001 + l4), vi 0, vi (-9), vi (-9)]) (r := []) rfl rfl rfl rfl rfl rfl (wc_mono H (Nat.le_refl _) ?_)
    rintro _ s6 ⟨rfl, H⟩
    show wm iv L h0 (d + 1) 116 50 [lr 307, li l1, ln, li l3, li l4] [] s6 (qi F)
    refine w_aload_n rfl rfl ?_
    refine w_sipush (n := 3000) rfl rfl rfl ?_
    refine w_iload rfl rfl ?_
    refine w_sipush (n := 3001) rfl rfl rfl ?_
    refine w_iload rfl rfl ?_
    refine w_iadd rfl g5 ?_
    refine m_call (as := [vi 3000, vi l4, vi (3001 + l4)]) (r := []) rfl rfl rfl rfl rfl rfl (wc_mono H (Nat.le_refl _) ?_)
    rintro _ s7 ⟨rfl, H⟩
    show wm iv L h0 (d + 1) 116 65 [lr 307, li l1, ln, li l3, li l4] [] s7 (qi F)
    obtain ⟨g8, H⟩ := H
    refine w_iinc rfl rfl rfl g8 ?_
    refine w_goto rfl ?_
    exact wp_ls (sl_s (sl_s (sl_n (sl_s (sl_s (sl_0)))))) H

/-- HoleDeskModel.offer(IIZ)V -/
theorem B117 {iv : List (Int × Int)} {L : Nat} {h0 : MH} {d : Nat} {s : SM} {a1 : Int} {a2 : Int} {a3 : Int} {F : SM → Prop} (H : cm iv L h0 d 116 [vr 307, vi a1, vi a2] s (qi fun r2 s1 => ((r2 = 0 → F s1) ∧ (r2 ≠ 0 → (0 ≤ s1.1 45 ∧ s1.1 45 < 64) ∧ ((a3 = 0 → (-2147483648 ≤ (s1.1 45) + 1 ∧ (s1.1 45) + 1 ≤ 2147483647) ∧ F (us (ua (ua s1 43 (s1.1 45) a1) 44 (s1.1 45) (-9)) 45 ((s1.1 45) + 1))) ∧ (a3 ≠ 0 → (-2147483648 ≤ (s1.1 45) + 1 ∧ (s1.1 45) + 1 ≤ 2147483647) ∧ F (us (ua (ua s1 43 (s1.1 45) a1) 44 (s1.1 45) a2) 45 ((s1.1 45) + 1)))))))) : cm iv L h0 (d + 1) 117 [vr 307, vi a1, vi a2, vi a3] s (qv F) := by
  show wm iv L h0 (d + 1) 117 0 [lr 307, li a1, li a2, li a3] [] s (qv F)
  refine w_aload_n rfl rfl ?_
  refine w_iload_n rfl rfl ?_
  refine w_iload_n rfl rfl ?_
  refine m_call (as := [vi a1, vi a2]) (r := []) rfl rfl rfl rfl rfl rfl (wc_mono H (Nat.le_refl _) ?_)
  rintro _ s1 ⟨r2, rfl, H⟩
  show wm iv L h0 (d + 1) 117 6 [lr 307, li a1, li a2, li a3] [vi r2] s1 (qv F)
  refine w_if_eq rfl (fun h => ?_) (fun h => ?_)
  · replace H := H.1 h
    exact w_ret rfl rfl ⟨rfl, H⟩
  · replace H := H.2 h
    refine w_aload_n rfl rfl ?_
    refine m_geta (t := 0) (k := 64) rfl rfl ?_
    refine w_aload_n rfl rfl ?_
    refine m_get rfl rfl ?_
    refine w_iload_n rfl rfl ?_
    obtain ⟨g3, H⟩ := H
    refine m_ast rfl (f := 43) (k := 64) rfl g3 ?_
    refine w_aload_n rfl rfl ?_
    refine m_geta (t := 0) (k := 64) rfl rfl ?_
    refine w_aload_n rfl rfl ?_
    refine m_get rfl rfl ?_
    show wm iv L h0 (d + 1) 117 27 [lr 307, li a1, li a2, li a3] [vi (s1.1 45), vr 339] (ua s1 43 (s1.1 45) a1) (qv F)
    refine w_iload_n rfl rfl ?_
    refine w_if_eq rfl (fun h => ?_) (fun h => ?_)
    · replace H := H.1 h
      refine w_bipush (n := (-9)) rfl rfl rfl ?_
      refine m_ast rfl (f := 44) (k := 64) rfl g3 ?_
      refine w_aload_n rfl rfl ?_
      refine w_dup rfl rfl ?_
      refine m_get rfl rfl ?_
      show wm iv L h0 (d + 1) 117 43 [lr 307, li a1, li a2, li a3] [vi (s1.1 45), vr 307] (ua (ua s1 43 (s1.1 45) a1) 44 (s1.1 45) (-9)) (qv F)
      refine w_iconst (n := 1) rfl rfl ?_
      obtain ⟨g4, H⟩ := H
      refine w_iadd rfl g4 ?_
      refine m_put rfl rfl rfl ?_
      exact w_ret rfl rfl ⟨rfl, H⟩
    · replace H := H.2 h
      refine w_iload_n rfl rfl ?_
      refine w_goto rfl ?_
      refine m_ast rfl (f := 44) (k := 64) rfl g3 ?_
      refine w_aload_n rfl rfl ?_
      refine w_dup rfl rfl ?_
      refine m_get rfl rfl ?_
      show wm iv L h0 (d + 1) 117 43 [lr 307, li a1, li a2, li a3] [vi (s1.1 45), vr 307] (ua (ua s1 43 (s1.1 45) a1) 44 (s1.1 45) a2) (qv F)
      refine w_iconst (n := 1) rfl rfl ?_
      obtain ⟨g5, H⟩ := H
      refine w_iadd rfl g5 ?_
      refine m_put rfl rfl rfl ?_
      exact w_ret rfl rfl ⟨rfl, H⟩

/-- HoleDeskModel.findOffers()V -/
theorem B118 {iv : List (Int × Int)} {L : Nat} {h0 : MH} {d : Nat} {s : SM} {F : SM → Prop} (H : wm iv L h0 (d + 1) 118 7 [lr 307, li 0] [] (us s 45 0) (qv F)) : cm iv L h0 (d + 1) 118 [vr 307] s (qv F) := by
  show wm iv L h0 (d + 1) 118 0 [lr 307] [] s (qv F)
  refine w_aload_n rfl rfl ?_
  refine w_iconst (n := 0) rfl rfl ?_
  refine m_put rfl rfl rfl ?_
  refine w_iconst (n := 0) rfl rfl ?_
  refine w_istore_n rfl rfl ?_
  exact wp_ls (sl_s (sl_s (sl_0))) H

/-- HoleDeskModel.findOffers()V at 7 -/
theorem B118_7 {iv : List (Int × Int)} {L : Nat} {h0 : MH} {d : Nat} {s : SM} {l1 : Int} {F : SM → Prop} (H : ((26 ≤ l1 → cm iv L h0 d 117 [vr 307, vi 1, vi 0, vi 0] s (qv fun s1 => cm iv L h0 d 117 [vr 307, vi 2, vi 0, vi 0] s1 (qv fun s2 => wm iv L h0 (d + 1) 118 56 [lr 307, li 4] [] s2 (qv F)))) ∧ (l1 < 26 → cm iv L h0 d 85 [vr 307, vi (s.1 16), vi l1] s (qi fun r4 s3 => ((r4 = (-9) → (-2147483648 ≤ l1 + 1 ∧ l1 + 1 ≤ 2147483647) ∧ wm iv L h0 (d + 1) 118 7 [lr 307, li (l1 + 1)] [] s3 (qv F)) ∧ (r4 ≠ (-9) → cm iv L h0 d 117 [vr 307, vi 3, vi l1, vi 1] s3 (qv fun s6 => (-2147483648 ≤ l1 + 1 ∧ l1 + 1 ≤ 2147483647) ∧ wm iv L h0 (d + 1) 118 7 [lr 307, li (l1 + 1)] [] s6 (qv F)))))))) : wm iv L h0 (d + 1) 118 7 [lr 307, li l1] [] s (qv F) := by
  refine w_iload_n rfl rfl ?_
  refine w_bipush (n := 26) rfl rfl rfl ?_
  refine w_icmp_ge rfl (fun h => ?_) (fun h => ?_)
  · replace H := H.1 h
    refine w_aload_n rfl rfl ?_
    refine w_iconst (n := 1) rfl rfl ?_
    refine w_iconst (n := 0) rfl rfl ?_
    refine w_iconst (n := 0) rfl rfl ?_
    refine m_call (as := [vi 1, vi 0, vi 0]) (r := []) rfl rfl rfl rfl rfl rfl (wc_mono H (Nat.le_refl _) ?_)
    rintro _ s1 ⟨rfl, H⟩
    show wm iv L h0 (d + 1) 118 47 [lr 307, li l1] [] s1 (qv F)
    refine w_aload_n rfl rfl ?_
    refine w_iconst (n := 2) rfl rfl ?_
    refine w_iconst (n := 0) rfl rfl ?_
    refine w_iconst (n := 0) rfl rfl ?_
    refine m_call (as := [vi 2, vi 0, vi 0]) (r := []) rfl rfl rfl rfl rfl rfl (wc_mono H (Nat.le_refl _) ?_)
    rintro _ s2 ⟨rfl, H⟩
    show wm iv L h0 (d + 1) 118 54 [lr 307, li l1] [] s2 (qv F)
    refine w_iconst (n := 4) rfl rfl ?_
    refine w_istore_n rfl rfl ?_
    exact wp_ls (sl_s (sl_s (sl_0))) H
  · replace H := H.2 h
    refine w_aload_n rfl rfl ?_
    refine w_aload_n rfl rfl ?_
    refine m_get rfl rfl ?_
    refine w_iload_n rfl rfl ?_
    refine m_call (as := [vi (s.1 16), vi l1]) (r := []) rfl rfl rfl rfl rfl rfl (wc_mono H (Nat.le_refl _) ?_)
    rintro _ s3 ⟨r4, rfl, H⟩
    show wm iv L h0 (d + 1) 118 22 [lr 307, li l1] [vi r4] s3 (qv F)
    refine w_bipush (n := (-9)) rfl rfl rfl ?_
    refine w_icmp_eq rfl (fun h => ?_) (fun h => ?_)
    · replace H := H.1 h
      obtain ⟨g5, H⟩ := H
      refine w_iinc rfl rfl rfl g5 ?_
      refine w_goto rfl ?_
      exact wp_ls (sl_s (sl_s (sl_0))) H
    · replace H := H.2 h
      refine w_aload_n rfl rfl ?_
      refine w_iconst (n := 3) rfl rfl ?_
      refine w_iload_n rfl rfl ?_
      refine w_iconst (n := 1) rfl rfl ?_
      refine m_call (as := [vi 3, vi l1, vi 1]) (r := []) rfl rfl rfl rfl rfl rfl (wc_mono H (Nat.le_refl _) ?_)
      rintro _ s6 ⟨rfl, H⟩
      show wm iv L h0 (d + 1) 118 34 [lr 307, li l1] [] s6 (qv F)
      obtain ⟨g7, H⟩ := H
      refine w_iinc rfl rfl rfl g7 ?_
      refine w_goto rfl ?_
      exact wp_ls (sl_s (sl_s (sl_0))) H

/-- HoleDeskModel.findOffers()V at 56 -/
theorem B118_56 {iv : List (Int × Int)} {L : Nat} {h0 : MH} {d : Nat} {s : SM} {l1 : Int} {F : SM → Prop} (H : ((15 < l1 → F s) ∧ (l1 ≤ 15 → cm iv L h0 d 117 [vr 307, vi l1, vi 0, vi 0] s (qv fun s1 => (-2147483648 ≤ l1 + 1 ∧ l1 + 1 ≤ 2147483647) ∧ wm iv L h0 (d + 1) 118 56 [lr 307, li (l1 + 1)] [] s1 (qv F))))) : wm iv L h0 (d + 1) 118 56 [lr 307, li l1] [] s (qv F) := by
  refine w_iload_n rfl rfl ?_
  refine w_bipush (n := 15) rfl rfl rfl ?_
  refine w_icmp_gt rfl (fun h => ?_) (fun h => ?_)
  · replace H := H.1 h
    exact w_ret rfl rfl ⟨rfl, H⟩
  · replace H := H.2 h
    refine w_aload_n rfl rfl ?_
    refine w_iload_n rfl rfl ?_
    refine w_iconst (n := 0) rfl rfl ?_
    refine w_iconst (n := 0) rfl rfl ?_
    refine m_call (as := [vi l1, vi 0, vi 0]) (r := []) rfl rfl rfl rfl rfl rfl (wc_mono H (Nat.le_refl _) ?_)
    rintro _ s1 ⟨rfl, H⟩
    show wm iv L h0 (d + 1) 118 69 [lr 307, li l1] [] s1 (qv F)
    obtain ⟨g2, H⟩ := H
    refine w_iinc rfl rfl rfl g2 ?_
    refine w_goto rfl ?_
    exact wp_ls (sl_s (sl_s (sl_0))) H
end
section
/-! What the methods of the reference come to. Printed by wip/gen2/gens.py. -/
/-- HoleDeskModel.offers()I -/
theorem B119 {iv : List (Int × Int)} {L : Nat} {h0 : MH} {d : Nat} {s : SM} {F : Int → SM → Prop} (H : (0 ≤ s.1 16 ∧ s.1 16 < 3004) ∧ ((s.2 9 (s.1 16) = 0 → cm iv L h0 d 118 [vr 307] s (qv fun s2 => F (s2.1 45) s2)) ∧ (s.2 9 (s.1 16) ≠ 0 → F (-4) s))) : cm iv L h0 (d + 1) 119 [vr 307] s (qi F) := by
  show wm iv L h0 (d + 1) 119 0 [lr 307] [] s (qi F)
  refine w_aload_n rfl rfl ?_
  refine m_geta (t := 0) (k := 3004) rfl rfl ?_
  refine w_aload_n rfl rfl ?_
  refine m_get rfl rfl ?_
  obtain ⟨g1, H⟩ := H
  refine m_ald rfl (f := 9) (k := 3004) rfl g1 ?_
  refine w_if_eq rfl (fun h => ?_) (fun h => ?_)
  · replace H := H.1 h
    refine w_aload_n rfl rfl ?_
    refine m_call (as := []) (r := []) rfl rfl rfl rfl rfl rfl (wc_mono H (Nat.le_refl _) ?_)
    rintro _ s2 ⟨rfl, H⟩
    show wm iv L h0 (d + 1) 119 19 [lr 307] [] s2 (qi F)
    refine w_aload_n rfl rfl ?_
    refine m_get rfl rfl ?_
    exact w_iret rfl rfl ⟨_, rfl, H⟩
  · replace H := H.2 h
    refine w_bipush (n := (-4)) rfl rfl rfl ?_
    exact w_iret rfl rfl ⟨_, rfl, H⟩

/-- HoleDeskModel.offer(II)I -/
theorem B120 {iv : List (Int × Int)} {L : Nat} {h0 : MH} {d : Nat} {s : SM} {a1 : Int} {a2 : Int} {F : Int → SM → Prop} (H : ((0 ≤ a2 ∧ a2 ≤ 1 → (0 ≤ s.1 16 ∧ s.1 16 < 3004) ∧ ((s.2 9 (s.1 16) = 0 → cm iv L h0 d 118 [vr 307] s (qv fun s2 => (-2147483648 ≤ (s2.1 45) - 1 ∧ (s2.1 45) - 1 ≤ 2147483647) ∧ ((0 ≤ a1 ∧ a1 ≤ (s2.1 45) - 1 → ((a2 ≠ 0 → (0 ≤ a1 ∧ a1 < 64) ∧ F (s2.2 44 a1) s2) ∧ (a2 = 0 → (0 ≤ a1 ∧ a1 < 64) ∧ F (s2.2 43 a1) s2))) ∧ (a1 < 0 ∨ (s2.1 45) - 1 < a1 → F (-9) s2)))) ∧ (s.2 9 (s.1 16) ≠ 0 → F (-4) s))) ∧ (a2 < 0 ∨ 1 < a2 → F (-1) s))) : cm iv L h0 (d + 1) 120 [vr 307, vi a1, vi a2] s (qi F) := by
  show wm iv L h0 (d + 1) 120 0 [lr 307, li a1, li a2] [] s (qi F)
  refine w_iload_n rfl rfl ?_
  refine w_iconst (n := 0) rfl rfl ?_
  refine w_iconst (n := 1) rfl rfl ?_
  refine w_static (as := [vi a2, vi 0, vi 1]) (r := []) rfl rfl rfl rfl rfl (m_in (fun h => ?_) (fun h => ?_))
  · show wm iv L h0 (d + 1) 120 6 [lr 307, li a1, li a2] [vi 1] s (qi F)
    replace H := H.1 h
    refine w_if_ne rfl (fun _ => ?_) (fun h => absurd h (by decide))
    refine w_aload_n rfl rfl ?_
    refine m_geta (t := 0) (k := 3004) rfl rfl ?_
    refine w_aload_n rfl rfl ?_
    refine m_get rfl rfl ?_
    obtain ⟨g1, H⟩ := H
    refine m_ald rfl (f := 9) (k := 3004) rfl g1 ?_
    refine w_if_eq rfl (fun h => ?_) (fun h => ?_)
    · replace H := H.1 h
      refine w_aload_n rfl rfl ?_
      refine m_call (as := []) (r := []) rfl rfl rfl rfl rfl rfl (wc_mono H (Nat.le_refl _) ?_)
      rintro _ s2 ⟨rfl, H⟩
      show wm iv L h0 (d + 1) 120 30 [lr 307, li a1, li a2] [] s2 (qi F)
      refine w_iload_n rfl rfl ?_
      refine w_iconst (n := 0) rfl rfl ?_
      refine w_aload_n rfl rfl ?_
      refine m_get rfl rfl ?_
      refine w_iconst (n := 1) rfl rfl ?_
      obtain ⟨g3, H⟩ := H
      refine w_isub rfl g3 ?_
      refine w_static (as := [vi a1, vi 0, vi ((s2.1 45) - 1)]) (r := []) rfl rfl rfl rfl rfl (m_in (fun h => ?_) (fun h => ?_))
      · show wm iv L h0 (d + 1) 120 41 [lr 307, li a1, li a2] [vi 1] s2 (qi F)
        replace H := H.1 h
        refine w_if_ne rfl (fun _ => ?_) (fun h => absurd h (by decide))
        refine w_iload_n rfl rfl ?_
        refine w_if_ne rfl (fun h => ?_) (fun h => ?_)
        · replace H := H.1 h
          refine w_aload_n rfl rfl ?_
          refine m_geta (t := 0) (k := 64) rfl rfl ?_
          refine w_iload_n rfl rfl ?_
          obtain ⟨g4, H⟩ := H
          refine m_ald rfl (f := 44) (k := 64) rfl g4 ?_
          exact w_iret rfl rfl ⟨_, rfl, H⟩
        · replace H := H.2 h
          refine w_aload_n rfl rfl ?_
          refine m_geta (t := 0) (k := 64) rfl rfl ?_
          refine w_iload_n rfl rfl ?_
          obtain ⟨g5, H⟩ := H
          refine m_ald rfl (f := 43) (k := 64) rfl g5 ?_
          refine w_goto rfl ?_
          exact w_iret rfl rfl ⟨_, rfl, H⟩
      · show wm iv L h0 (d + 1) 120 41 [lr 307, li a1, li a2] [vi 0] s2 (qi F)
        replace H := H.2 h
        refine w_if_ne rfl (fun h => absurd h (by decide)) (fun _ => ?_)
        refine w_bipush (n := (-9)) rfl rfl rfl ?_
        refine w_goto rfl ?_
        exact w_iret rfl rfl ⟨_, rfl, H⟩
    · replace H := H.2 h
      refine w_bipush (n := (-4)) rfl rfl rfl ?_
      exact w_iret rfl rfl ⟨_, rfl, H⟩
  · show wm iv L h0 (d + 1) 120 6 [lr 307, li a1, li a2] [vi 0] s (qi F)
    replace H := H.2 h
    refine w_if_ne rfl (fun h => absurd h (by decide)) (fun _ => ?_)
    refine w_iconst (n := (-1)) rfl rfl ?_
    exact w_iret rfl rfl ⟨_, rfl, H⟩

/-- HoleDeskModel.value(IIIII)I -/
theorem B121 {iv : List (Int × Int)} {L : Nat} {h0 : MH} {d : Nat} {s : SM} {a1 : Int} {a2 : Int} {a3 : Int} {a4 : Int} {a5 : Int} {F : Int → SM → Prop} (H : (-2147483648 ≤ (s.1 52) + 1 ∧ (s.1 52) + 1 ≤ 2147483647) ∧ (0 ≤ s.1 52 ∧ s.1 52 < 2600) ∧ ((4 ≤ a1 → F (s.1 52) (ua (ua (ua (ua (ua (ua (us s 52 ((s.1 52) + 1)) 46 (s.1 52) a1) 47 (s.1 52) a2) 48 (s.1 52) a3) 49 (s.1 52) a4) 50 (s.1 52) a5) 51 (s.1 52) 1)) ∧ (a1 < 4 → ((a1 ≠ 3 → F (s.1 52) (ua (ua (ua (ua (ua (ua (us s 52 ((s.1 52) + 1)) 46 (s.1 52) a1) 47 (s.1 52) a2) 48 (s.1 52) a3) 49 (s.1 52) a4) 50 (s.1 52) a5) 51 (s.1 52) 0)) ∧ (a1 = 3 → ((a3 = (-9) → F (s.1 52) (ua (ua (ua (ua (ua (ua (us s 52 ((s.1 52) + 1)) 46 (s.1 52) a1) 47 (s.1 52) a2) 48 (s.1 52) a3) 49 (s.1 52) a4) 50 (s.1 52) a5) 51 (s.1 52) 0)) ∧ (a3 ≠ (-9) → ((a4 = (-9) → F (s.1 52) (ua (ua (ua (ua (ua (ua (us s 52 ((s.1 52) + 1)) 46 (s.1 52) a1) 47 (s.1 52) a2) 48 (s.1 52) a3) 49 (s.1 52) a4) 50 (s.1 52) a5) 51 (s.1 52) 0)) ∧ (a4 ≠ (-9) → (0 ≤ a3 ∧ a3 < 2600) ∧ ((s.2 51 a3 ≠ 0 → F (s.1 52) (ua (ua (ua (ua (ua (ua (us s 52 ((s.1 52) + 1)) 46 (s.1 52) a1) 47 (s.1 52) a2) 48 (s.1 52) a3) 49 (s.1 52) a4) 50 (s.1 52) a5) 51 (s.1 52) 1)) ∧ (s.2 51 a3 = 0 → (0 ≤ a4 ∧ a4 < 2600) ∧ ((s.2 51 a4 = 0 → F (s.1 52) (ua (ua (ua (ua (ua (ua (us s 52 ((s.1 52) + 1)) 46 (s.1 52) a1) 47 (s.1 52) a2) 48 (s.1 52) a3) 49 (s.1 52) a4) 50 (s.1 52) a5) 51 (s.1 52) 0)) ∧ (s.2 51 a4 ≠ 0 → F (s.1 52) (ua (ua (ua (ua (ua (ua (us s 52 ((s.1 52) + 1)) 46 (s.1 52) a1) 47 (s.1 52) a2) 48 (s.1 52) a3) 49 (s.1 52) a4) 50 (s.1 52) a5) 51 (s.1 52) 1)))))))))))))) : cm iv L h0 d 121 [vr 307, vi a1, vi a2, vi a3, vi a4, vi a5] s (qi F) := by
  show wm iv L h0 d 121 0 [lr 307, li a1, li a2, li a3, li a4, li a5] [] s (qi F)
  refine w_aload_n rfl rfl ?_
  refine m_get rfl rfl ?_
  refine w_istore rfl rfl ?_
  refine w_aload_n rfl rfl ?_
  refine w_dup rfl rfl ?_
  refine m_get rfl rfl ?_
  refine w_iconst (n := 1) rfl rfl ?_
  obtain ⟨g1, H⟩ := H
  refine w_iadd rfl g1 ?_
  refine m_put rfl rfl rfl ?_
  refine w_aload_n rfl rfl ?_
  refine m_geta (t := 0) (k := 2600) rfl rfl ?_
  refine w_iload rfl rfl ?_
  refine w_iload_n rfl rfl ?_
  obtain ⟨g2, H⟩ := H
  refine m_ast rfl (f := 46) (k := 2600) rfl g2 ?_
  refine w_aload_n rfl rfl ?_
  refine m_geta (t := 0) (k := 2600) rfl rfl ?_
  refine w_iload rfl rfl ?_
  refine w_iload_n rfl rfl ?_
  refine m_ast rfl (f := 47) (k := 2600) rfl g2 ?_
  refine w_aload_n rfl rfl ?_
  refine m_geta (t := 0) (k := 2600) rfl rfl ?_
  refine w_iload rfl rfl ?_
  refine w_iload_n rfl rfl ?_
  refine m_ast rfl (f := 48) (k := 2600) rfl g2 ?_
  refine w_aload_n rfl rfl ?_
  refine m_geta (t := 0) (k := 2600) rfl rfl ?_
  refine w_iload rfl rfl ?_
  refine w_iload rfl rfl ?_
  refine m_ast rfl (f := 49) (k := 2600) rfl g2 ?_
  refine w_aload_n rfl rfl ?_
  refine m_geta (t := 0) (k := 2600) rfl rfl ?_
  refine w_iload rfl rfl ?_
  refine w_iload rfl rfl ?_
  refine m_ast rfl (f := 50) (k := 2600) rfl g2 ?_
  refine w_aload_n rfl rfl ?_
  refine m_geta (t := 2) (k := 2600) rfl rfl ?_
  refine w_iload rfl rfl ?_
  refine w_iload_n rfl rfl ?_
  refine w_iconst (n := 4) rfl rfl ?_
  refine w_icmp_ge rfl (fun h => ?_) (fun h => ?_)
  · replace H := H.1 h
    refine w_iconst (n := 1) rfl rfl ?_
    refine w_goto rfl ?_
    refine m_bast (t := 2) rfl (f := 51) (k := 2600) rfl g2 (Or.inr ⟨rfl, by decide⟩) ?_
    refine w_iload rfl rfl ?_
    exact w_iret rfl rfl ⟨_, rfl, H⟩
  · replace H := H.2 h
    refine w_iload_n rfl rfl ?_
    refine w_iconst (n := 3) rfl rfl ?_
    refine w_icmp_ne rfl (fun h => ?_) (fun h => ?_)
    · replace H := H.1 h
      refine w_iconst (n := 0) rfl rfl ?_
      refine m_bast (t := 2) rfl (f := 51) (k := 2600) rfl g2 (Or.inr ⟨rfl, by decide⟩) ?_
      refine w_iload rfl rfl ?_
      exact w_iret rfl rfl ⟨_, rfl, H⟩
    · replace H := H.2 h
      refine w_iload_n rfl rfl ?_
      refine w_bipush (n := (-9)) rfl rfl rfl ?_
      refine w_icmp_eq rfl (fun h => ?_) (fun h => ?_)
      · replace H := H.1 h
        refine w_iconst (n := 0) rfl rfl ?_
        refine m_bast (t := 2) rfl (f := 51) (k := 2600) rfl g2 (Or.inr ⟨rfl, by decide⟩) ?_
        refine w_iload rfl rfl ?_
        exact w_iret rfl rfl ⟨_, rfl, H⟩
      · replace H := H.2 h
        refine w_iload rfl rfl ?_
        refine w_bipush (n := (-9)) rfl rfl rfl ?_
        refine w_icmp_eq rfl (fun h => ?_) (fun h => ?_)
        · replace H := H.1 h
          refine w_iconst (n := 0) rfl rfl ?_
          refine m_bast (t := 2) rfl (f := 51) (k := 2600) rfl g2 (Or.inr ⟨rfl, by decide⟩) ?_
          refine w_iload rfl rfl ?_
          exact w_iret rfl rfl ⟨_, rfl, H⟩
        · replace H := H.2 h
          refine w_aload_n rfl rfl ?_
          refine m_geta (t := 2) (k := 2600) rfl rfl ?_
          refine w_iload_n rfl rfl ?_
          obtain ⟨g3, H⟩ := H
          refine m_bald (t := 2) rfl (f := 51) (k := 2600) rfl g3 ?_
          show wm iv L h0 d 121 93 [lr 307, li a1, li a2, li a3, li a4, li a5, li (s.1 52)] [vi (s.2 51 a3), vi (s.1 52), vr 345] (ua (ua (ua (ua (ua (us s 52 ((s.1 52) + 1)) 46 (s.1 52) a1) 47 (s.1 52) a2) 48 (s.1 52) a3) 49 (s.1 52) a4) 50 (s.1 52) a5) (qi F)
          refine w_if_ne rfl (fun h => ?_) (fun h => ?_)
          · replace H := H.1 h
            refine w_iconst (n := 1) rfl rfl ?_
            refine w_goto rfl ?_
            refine m_bast (t := 2) rfl (f := 51) (k := 2600) rfl g2 (Or.inr ⟨rfl, by decide⟩) ?_
            refine w_iload rfl rfl ?_
            exact w_iret rfl rfl ⟨_, rfl, H⟩
          · replace H := H.2 h
            refine w_aload_n rfl rfl ?_
            refine m_geta (t := 2) (k := 2600) rfl rfl ?_
            refine w_iload rfl rfl ?_
            obtain ⟨g4, H⟩ := H
            refine m_bald (t := 2) rfl (f := 51) (k := 2600) rfl g4 ?_
            show wm iv L h0 d 121 103 [lr 307, li a1, li a2, li a3, li a4, li a5, li (s.1 52)] [vi (s.2 51 a4), vi (s.1 52), vr 345] (ua (ua (ua (ua (ua (us s 52 ((s.1 52) + 1)) 46 (s.1 52) a1) 47 (s.1 52) a2) 48 (s.1 52) a3) 49 (s.1 52) a4) 50 (s.1 52) a5) (qi F)
            refine w_if_eq rfl (fun h => ?_) (fun h => ?_)
            · replace H := H.1 h
              refine w_iconst (n := 0) rfl rfl ?_
              refine m_bast (t := 2) rfl (f := 51) (k := 2600) rfl g2 (Or.inr ⟨rfl, by decide⟩) ?_
              refine w_iload rfl rfl ?_
              exact w_iret rfl rfl ⟨_, rfl, H⟩
            · replace H := H.2 h
              refine w_iconst (n := 1) rfl rfl ?_
              refine w_goto rfl ?_
              refine m_bast (t := 2) rfl (f := 51) (k := 2600) rfl g2 (Or.inr ⟨rfl, by decide⟩) ?_
              refine w_iload rfl rfl ?_
              exact w_iret rfl rfl ⟨_, rfl, H⟩

/-- HoleDeskModel.newEnv(I)I -/
theorem B122 {iv : List (Int × Int)} {L : Nat} {h0 : MH} {d : Nat} {s : SM} {a1 : Int} {F : Int → SM → Prop} (H : (-2147483648 ≤ (s.1 54) + 1 ∧ (s.1 54) + 1 ≤ 2147483647) ∧ wm iv L h0 d 122 17 [lr 307, li a1, li (s.1 54), li 0] [] (us s 54 ((s.1 54) + 1)) (qi F)) : cm iv L h0 d 122 [vr 307, vi a1] s (qi F) := by
  show wm iv L h0 d 122 0 [lr 307, li a1] [] s (qi F)
  refine w_aload_n rfl rfl ?_
  refine m_get rfl rfl ?_
  refine w_istore_n rfl rfl ?_
  refine w_aload_n rfl rfl ?_
  refine w_dup rfl rfl ?_
  refine m_get rfl rfl ?_
  refine w_iconst (n := 1) rfl rfl ?_
  obtain ⟨g1, H⟩ := H
  refine w_iadd rfl g1 ?_
  refine m_put rfl rfl rfl ?_
  refine w_iconst (n := 0) rfl rfl ?_
  refine w_istore_n rfl rfl ?_
  exact wp_ls (sl_s (sl_s (sl_s (sl_s (sl_0))))) H

/-- HoleDeskModel.newEnv(I)I at 17 -/
theorem B122_17 {iv : List (Int × Int)} {L : Nat} {h0 : MH} {d : Nat} {s : SM} {l1 : Int} {l2 : Int} {l3 : Int} {F : Int → SM → Prop} (H : ((26 ≤ l3 → F l2 s) ∧ (l3 < 26 → (-2147483648 ≤ 26 * l2 ∧ 26 * l2 ≤ 2147483647) ∧ (-2147483648 ≤ (26 * l2) + l3 ∧ (26 * l2) + l3 ≤ 2147483647) ∧ ((l1 ≠ (-9) → (-2147483648 ≤ 26 * l1 ∧ 26 * l1 ≤ 2147483647) ∧ (-2147483648 ≤ (26 * l1) + l3 ∧ (26 * l1) + l3 ≤ 2147483647) ∧ (0 ≤ (26 * l1) + l3 ∧ (26 * l1) + l3 < 33280) ∧ (0 ≤ (26 * l2) + l3 ∧ (26 * l2) + l3 < 33280) ∧ (-2147483648 ≤ l3 + 1 ∧ l3 + 1 ≤ 2147483647) ∧ wm iv L h0 d 122 17 [lr 307, li l1, li l2, li (l3 + 1)] [] (ua s 53 ((26 * l2) + l3) (s.2 53 ((26 * l1) + l3))) (qi F)) ∧ (l1 = (-9) → (0 ≤ (26 * l2) + l3 ∧ (26 * l2) + l3 < 33280) ∧ (-2147483648 ≤ l3 + 1 ∧ l3 + 1 ≤ 2147483647) ∧ wm iv L h0 d 122 17 [lr 307, li l1, li l2, li (l3 + 1)] [] (ua s 53 ((26 * l2) + l3) (-9)) (qi F)))))) : wm iv L h0 d 122 17 [lr 307, li l1, li l2, li l3] [] s (qi F) := by
  refine w_iload_n rfl rfl ?_
  refine w_bipush (n := 26) rfl rfl rfl ?_
  refine w_icmp_ge rfl (fun h => ?_) (fun h => ?_)
  · replace H := H.1 h
    refine w_iload_n rfl rfl ?_
    exact w_iret rfl rfl ⟨_, rfl, H⟩
  · replace H := H.2 h
    refine w_aload_n rfl rfl ?_
    refine m_geta (t := 0) (k := 33280) rfl rfl ?_
    refine w_bipush (n := 26) rfl rfl rfl ?_
    refine w_iload_n rfl rfl ?_
    obtain ⟨g1, H⟩ := H
    refine w_imul rfl g1 ?_
    refine w_iload_n rfl rfl ?_
    obtain ⟨g2, H⟩ := H
    refine w_iadd rfl g2 ?_
    refine w_iload_n rfl rfl ?_
    refine w_bipush (n := (-9)) rfl rfl rfl ?_
    refine w_icmp_ne rfl (fun h => ?_) (fun h => ?_)
    · replace H := H.1 h
      refine w_aload_n rfl rfl ?_
      refine m_geta (t := 0) (k := 33280) rfl rfl ?_
      refine w_bipush (n := 26) rfl rfl rfl ?_
      refine w_iload_n rfl rfl ?_
      obtain ⟨g3, H⟩ := H
      refine w_imul rfl g3 ?_
      refine w_iload_n rfl rfl ?_
      obtain ⟨g4, H⟩ := H
      refine w_iadd rfl g4 ?_
      obtain ⟨g5, H⟩ := H
      refine m_ald rfl (f := 53) (k := 33280) rfl g5 ?_
      obtain ⟨g6, H⟩ := H
      refine m_ast rfl (f := 53) (k := 33280) rfl g6 ?_
      obtain ⟨g7, H⟩ := H
      refine w_iinc rfl rfl rfl g7 ?_
      refine w_goto rfl ?_
      exact wp_ls (sl_s (sl_s (sl_s (sl_s (sl_0))))) H
    · replace H := H.2 h
      refine w_bipush (n := (-9)) rfl rfl rfl ?_
      refine w_goto rfl ?_
      obtain ⟨g8, H⟩ := H
      refine m_ast rfl (f := 53) (k := 33280) rfl g8 ?_
      obtain ⟨g9, H⟩ := H
      refine w_iinc rfl rfl rfl g9 ?_
      refine w_goto rfl ?_
      exact wp_ls (sl_s (sl_s (sl_s (sl_s (sl_0))))) H

/-- HoleDeskModel.begins(I)Z -/
theorem B123 {iv : List (Int × Int)} {L : Nat} {h0 : MH} {d : Nat} {s : SM} {a1 : Int} {F : Int → SM → Prop} (H : ((s.1 56 = s.1 57 → F 0 (us (us s 59 4) 60 a1)) ∧ (s.1 56 ≠ s.1 57 → ((s.1 58 ≠ 60 → (-2147483648 ≤ (s.1 56) + 1 ∧ (s.1 56) + 1 ≤ 2147483647) ∧ (-2147483648 ≤ (s.1 58) + 1 ∧ (s.1 58) + 1 ≤ 2147483647) ∧ F 1 (us (us s 56 ((s.1 56) + 1)) 58 ((s.1 58) + 1))) ∧ (s.1 58 = 60 → F 0 (us (us s 59 4) 60 a1)))))) : cm iv L h0 d 123 [vr 307, vi a1] s (qi F) := by
  show wm iv L h0 d 123 0 [lr 307, li a1] [] s (qi F)
  refine w_aload_n rfl rfl ?_
  refine m_get rfl rfl ?_
  refine w_aload_n rfl rfl ?_
  refine m_get rfl rfl ?_
  refine w_icmp_eq rfl (fun h => ?_) (fun h => ?_)
  · replace H := H.1 h
    refine w_aload_n rfl rfl ?_
    refine w_iconst (n := 4) rfl rfl ?_
    refine m_put rfl rfl rfl ?_
    refine w_aload_n rfl rfl ?_
    refine w_iload_n rfl rfl ?_
    refine m_put rfl rfl rfl ?_
    refine w_iconst (n := 0) rfl rfl ?_
    exact w_iretz rfl rfl (by decide) ⟨_, rfl, H⟩
  · replace H := H.2 h
    refine w_aload_n rfl rfl ?_
    refine m_get rfl rfl ?_
    refine w_bipush (n := 60) rfl rfl rfl ?_
    refine w_icmp_ne rfl (fun h => ?_) (fun h => ?_)
    · replace H := H.1 h
      refine w_aload_n rfl rfl ?_
      refine w_dup rfl rfl ?_
      refine m_get rfl rfl ?_
      refine w_iconst (n := 1) rfl rfl ?_
      obtain ⟨g1, H⟩ := H
      refine w_iadd rfl g1 ?_
      refine m_put rfl rfl rfl ?_
      refine w_aload_n rfl rfl ?_
      refine w_dup rfl rfl ?_
      refine m_get rfl rfl ?_
      show wm iv L h0 d 123 47 [lr 307, li a1] [vi (s.1 58), vr 307] (us s 56 ((s.1 56) + 1)) (qi F)
      refine w_iconst (n := 1) rfl rfl ?_
      obtain ⟨g2, H⟩ := H
      refine w_iadd rfl g2 ?_
      refine m_put rfl rfl rfl ?_
      refine w_iconst (n := 1) rfl rfl ?_
      exact w_iretz rfl rfl (by decide) ⟨_, rfl, H⟩
    · replace H := H.2 h
      refine w_aload_n rfl rfl ?_
      refine w_iconst (n := 4) rfl rfl ?_
      refine m_put rfl rfl rfl ?_
      refine w_aload_n rfl rfl ?_
      refine w_iload_n rfl rfl ?_
      refine m_put rfl rfl rfl ?_
      refine w_iconst (n := 0) rfl rfl ?_
      exact w_iretz rfl rfl (by decide) ⟨_, rfl, H⟩

/-- HoleDeskModel.stopped(II)I -/
theorem B124 {iv : List (Int × Int)} {L : Nat} {h0 : MH} {d : Nat} {s : SM} {a1 : Int} {a2 : Int} {F : Int → SM → Prop} (H : F (-9) (us (us s 59 a1) 60 a2)) : cm iv L h0 d 124 [vr 307, vi a1, vi a2] s (qi F) := by
  show wm iv L h0 d 124 0 [lr 307, li a1, li a2] [] s (qi F)
  refine w_aload_n rfl rfl ?_
  refine w_iload_n rfl rfl ?_
  refine m_put rfl rfl rfl ?_
  refine w_aload_n rfl rfl ?_
  refine w_iload_n rfl rfl ?_
  refine m_put rfl rfl rfl ?_
  refine w_bipush (n := (-9)) rfl rfl rfl ?_
  exact w_iret rfl rfl ⟨_, rfl, H⟩

/-- HoleDeskModel.isLeft(I)Z -/
theorem B125 {iv : List (Int × Int)} {L : Nat} {h0 : MH} {d : Nat} {s : SM} {a1 : Int} {F : Int → SM → Prop} (H : (0 ≤ a1 ∧ a1 < 2600) ∧ ((s.2 46 a1 < 4 → F 0 s) ∧ (4 ≤ s.2 46 a1 → F 1 s))) : cm iv L h0 d 125 [vr 307, vi a1] s (qi F) := by
  show wm iv L h0 d 125 0 [lr 307, li a1] [] s (qi F)
  refine w_aload_n rfl rfl ?_
  refine m_geta (t := 0) (k := 2600) rfl rfl ?_
  refine w_iload_n rfl rfl ?_
  obtain ⟨g1, H⟩ := H
  refine m_ald rfl (f := 46) (k := 2600) rfl g1 ?_
  refine w_iconst (n := 4) rfl rfl ?_
  refine w_icmp_lt rfl (fun h => ?_) (fun h => ?_)
  · replace H := H.1 h
    refine w_iconst (n := 0) rfl rfl ?_
    exact w_iretz rfl rfl (by decide) ⟨_, rfl, H⟩
  · replace H := H.2 h
    refine w_iconst (n := 1) rfl rfl ?_
    refine w_goto rfl ?_
    exact w_iretz rfl rfl (by decide) ⟨_, rfl, H⟩

/-- HoleDeskModel.work(II)I -/
theorem B126 {iv : List (Int × Int)} {L : Nat} {h0 : MH} {d : Nat} {s : SM} {a1 : Int} {a2 : Int} {F : Int → SM → Prop} (H : cm iv L h0 d 123 [vr 307, vi a1] s (qi fun r2 s1 => ((r2 ≠ 0 → cm iv L h0 d 127 [vr 307, vi a1, vi a2] s1 (qi fun r4 s3 => (-2147483648 ≤ (s3.1 58) - 1 ∧ (s3.1 58) - 1 ≤ 2147483647) ∧ ((s3.1 59 ≤ 0 → (0 ≤ a1 ∧ a1 < 3004) ∧ ((s3.2 21 a1 ≤ 1 → F r4 (us s3 58 ((s3.1 58) - 1))) ∧ (1 < s3.2 21 a1 → cm iv L h0 d 121 [vr 307, vi 6, vi (-9), vi r4, vi (-9), vi (-9)] (us s3 58 ((s3.1 58) - 1)) (qi fun r8 s7 => F r8 s7)))) ∧ (0 < s3.1 59 → F (-9) (us s3 58 ((s3.1 58) - 1)))))) ∧ (r2 = 0 → F (-9) s1)))) : cm iv L h0 (d + 1) 126 [vr 307, vi a1, vi a2] s (qi F) := by
  show wm iv L h0 (d + 1) 126 0 [lr 307, li a1, li a2] [] s (qi F)
  refine w_aload_n rfl rfl ?_
  refine w_iload_n rfl rfl ?_
  refine m_call (as := [vi a1]) (r := []) rfl rfl rfl rfl rfl rfl (wc_mono H (Nat.le_refl _) ?_)
  rintro _ s1 ⟨r2, rfl, H⟩
  show wm iv L h0 (d + 1) 126 5 [lr 307, li a1, li a2] [vi r2] s1 (qi F)
  refine w_if_ne rfl (fun h => ?_) (fun h => ?_)
  · replace H := H.1 h
    refine w_aload_n rfl rfl ?_
    refine w_iload_n rfl rfl ?_
    refine w_iload_n rfl rfl ?_
    refine m_call (as := [vi a1, vi a2]) (r := []) rfl rfl rfl rfl rfl rfl (wc_mono H (Nat.le_refl _) ?_)
    rintro _ s3 ⟨r4, rfl, H⟩
    show wm iv L h0 (d + 1) 126 17 [lr 307, li a1, li a2] [vi r4] s3 (qi F)
    refine w_istore_n rfl rfl ?_
    refine w_aload_n rfl rfl ?_
    refine w_dup rfl rfl ?_
    refine m_get rfl rfl ?_
    refine w_iconst (n := 1) rfl rfl ?_
    obtain ⟨g5, H⟩ := H
    refine w_isub rfl g5 ?_
    refine m_put rfl rfl rfl ?_
    refine w_aload_n rfl rfl ?_
    refine m_get rfl rfl ?_
    show wm iv L h0 (d + 1) 126 32 [lr 307, li a1, li a2, li r4] [vi (s3.1 59)] (us s3 58 ((s3.1 58) - 1)) (qi F)
    refine w_if_le rfl (fun h => ?_) (fun h => ?_)
    · replace H := H.1 h
      refine w_aload_n rfl rfl ?_
      refine m_geta (t := 0) (k := 3004) rfl rfl ?_
      refine w_iload_n rfl rfl ?_
      obtain ⟨g6, H⟩ := H
      refine m_ald rfl (f := 21) (k := 3004) rfl g6 ?_
      show wm iv L h0 (d + 1) 126 44 [lr 307, li a1, li a2, li r4] [vi (s3.2 21 a1)] (us s3 58 ((s3.1 58) - 1)) (qi F)
      refine w_iconst (n := 1) rfl rfl ?_
      refine w_icmp_le rfl (fun h => ?_) (fun h => ?_)
      · replace H := H.1 h
        refine w_iload_n rfl rfl ?_
        exact w_iret rfl rfl ⟨_, rfl, H⟩
      · replace H := H.2 h
        refine w_aload_n rfl rfl ?_
        refine w_bipush (n := 6) rfl rfl rfl ?_
        refine w_bipush (n := (-9)) rfl rfl rfl ?_
        refine w_iload_n rfl rfl ?_
        refine w_bipush (n := (-9)) rfl rfl rfl ?_
        refine w_bipush (n := (-9)) rfl rfl rfl ?_
        refine m_call (as := [vi 6, vi (-9), vi r4, vi (-9), vi (-9)]) (r := []) rfl rfl rfl rfl rfl rfl (wc_mono H (Nat.le_refl _) ?_)
        rintro _ s7 ⟨r8, rfl, H⟩
        show wm iv L h0 (d + 1) 126 61 [lr 307, li a1, li a2, li r4] [vi r8] s7 (qi F)
        refine w_goto rfl ?_
        exact w_iret rfl rfl ⟨_, rfl, H⟩
    · replace H := H.2 h
      refine w_bipush (n := (-9)) rfl rfl rfl ?_
      exact w_iret rfl rfl ⟨_, rfl, H⟩
  · replace H := H.2 h
    refine w_bipush (n := (-9)) rfl rfl rfl ?_
    exact w_iret rfl rfl ⟨_, rfl, H⟩

/-- HoleDeskModel.workPlain(II)I -/
theorem B127 {iv : List (Int × Int)} {L : Nat} {h0 : MH} {d : Nat} {s : SM} {a1 : Int} {a2 : Int} {F : Int → SM → Prop} (H : (0 ≤ a1 ∧ a1 < 3004) ∧ ((s.2 9 a1 = 0 → cm iv L h0 d 121 [vr 307, vi 4, vi a1, vi (-9), vi (-9), vi a2] s (qi fun r3 s2 => F r3 s2)) ∧ (s.2 9 a1 = 1 → cm iv L h0 d 121 [vr 307, vi 0, vi (s.2 10 a1), vi (-9), vi (-9), vi (-9)] s (qi fun r5 s4 => F r5 s4)) ∧ (s.2 9 a1 = 2 → cm iv L h0 d 121 [vr 307, vi 1, vi (s.2 10 a1), vi (-9), vi (-9), vi (-9)] s (qi fun r7 s6 => F r7 s6)) ∧ (s.2 9 a1 = 3 → ((s.2 21 a1 ≠ 1 → (-2147483648 ≤ 26 * a2 ∧ 26 * a2 ≤ 2147483647) ∧ (-2147483648 ≤ (26 * a2) + (s.2 10 a1) ∧ (26 * a2) + (s.2 10 a1) ≤ 2147483647) ∧ (0 ≤ (26 * a2) + (s.2 10 a1) ∧ (26 * a2) + (s.2 10 a1) < 33280) ∧ F (s.2 53 ((26 * a2) + (s.2 10 a1))) s) ∧ (s.2 21 a1 = 1 → cm iv L h0 d 121 [vr 307, vi 5, vi (s.2 10 a1), vi (-9), vi (-9), vi (-9)] s (qi fun r12 s11 => F r12 s11)))) ∧ (s.2 9 a1 = 4 ∨ s.2 9 a1 = 5 ∨ s.2 9 a1 = 6 ∨ s.2 9 a1 = 7 ∨ s.2 9 a1 = 9 ∨ s.2 9 a1 = 11 ∨ s.2 9 a1 = 12 ∨ s.2 9 a1 = 13 ∨ s.2 9 a1 = 14 ∨ s.2 9 a1 < 0 ∨ 15 < s.2 9 a1 → (-2147483648 ≤ 3 * a1 ∧ 3 * a1 ≤ 2147483647) ∧ (0 ≤ 3 * a1 ∧ 3 * a1 < 9012) ∧ cm iv L h0 d 126 [vr 307, vi (s.2 14 (3 * a1)), vi a2] s (qi fun r16 s15 => (0 ≤ s15.2 9 a1 ∧ s15.2 9 a1 < 16) ∧ ((pO (s15.2 9 a1) ≠ 2 → ((s15.1 59 ≤ 0 → cm iv L h0 d 128 [vr 307, vi a1, vi r16, vi (-9), vi a2] s15 (qi fun r19 s18 => F r19 s18)) ∧ (0 < s15.1 59 → F (-9) s15))) ∧ (pO (s15.2 9 a1) = 2 → ((s15.1 59 ≠ 0 → ((s15.1 59 ≤ 0 → cm iv L h0 d 128 [vr 307, vi a1, vi r16, vi (-9), vi a2] s15 (qi fun r21 s20 => F r21 s20)) ∧ (0 < s15.1 59 → F (-9) s15))) ∧ (s15.1 59 = 0 → (-2147483648 ≤ (3 * a1) + 1 ∧ (3 * a1) + 1 ≤ 2147483647) ∧ (0 ≤ (3 * a1) + 1 ∧ (3 * a1) + 1 < 9012) ∧ cm iv L h0 d 126 [vr 307, vi (s15.2 14 ((3 * a1) + 1)), vi a2] s15 (qi fun r25 s24 => ((s24.1 59 ≤ 0 → cm iv L h0 d 128 [vr 307, vi a1, vi r16, vi r25, vi a2] s24 (qi fun r27 s26 => F r27 s26)) ∧ (0 < s24.1 59 → F (-9) s24))))))))) ∧ (s.2 9 a1 = 8 → cm iv L h0 d 121 [vr 307, vi 2, vi a1, vi (-9), vi (-9), vi a2] s (qi fun r29 s28 => F r29 s28)) ∧ (s.2 9 a1 = 10 → (-2147483648 ≤ 3 * a1 ∧ 3 * a1 ≤ 2147483647) ∧ (0 ≤ 3 * a1 ∧ 3 * a1 < 9012) ∧ cm iv L h0 d 126 [vr 307, vi (s.2 14 (3 * a1)), vi a2] s (qi fun r33 s32 => ((s32.1 59 ≤ 0 → cm iv L h0 d 122 [vr 307, vi a2] s32 (qi fun r35 s34 => (-2147483648 ≤ 26 * r35 ∧ 26 * r35 ≤ 2147483647) ∧ (-2147483648 ≤ (26 * r35) + (s34.2 10 a1) ∧ (26 * r35) + (s34.2 10 a1) ≤ 2147483647) ∧ (0 ≤ (26 * r35) + (s34.2 10 a1) ∧ (26 * r35) + (s34.2 10 a1) < 33280) ∧ (-2147483648 ≤ (3 * a1) + 1 ∧ (3 * a1) + 1 ≤ 2147483647) ∧ (0 ≤ (3 * a1) + 1 ∧ (3 * a1) + 1 < 9012) ∧ cm iv L h0 d 126 [vr 307, vi (s34.2 14 ((3 * a1) + 1)), vi r35] (ua s34 53 ((26 * r35) + (s34.2 10 a1)) r33) (qi fun r42 s41 => F r42 s41))) ∧ (0 < s32.1 59 → F (-9) s32)))) ∧ (s.2 9 a1 = 15 → (-2147483648 ≤ 3 * a1 ∧ 3 * a1 ≤ 2147483647) ∧ (0 ≤ 3 * a1 ∧ 3 * a1 < 9012) ∧ cm iv L h0 d 126 [vr 307, vi (s.2 14 (3 * a1)), vi a2] s (qi fun r46 s45 => F r46 s45)))) : cm iv L h0 (d + 1) 127 [vr 307, vi a1, vi a2] s (qi F) := by
  show wm iv L h0 (d + 1) 127 0 [lr 307, li a1, li a2] [] s (qi F)
  refine w_aload_n rfl rfl ?_
  refine m_geta (t := 0) (k := 3004) rfl rfl ?_
  refine w_iload_n rfl rfl ?_
  obtain ⟨g1, H⟩ := H
  refine m_ald rfl (f := 9) (k := 3004) rfl g1 ?_
  have J84 : (s.2 9 a1 = 0) → wm iv L h0 (d + 1) 127 84 [lr 307, li a1, li a2] [] s (qi F) := fun h => by
    replace H := H.1 h
    refine w_aload_n rfl rfl ?_
    refine w_iconst (n := 4) rfl rfl ?_
    refine w_iload_n rfl rfl ?_
    refine w_bipush (n := (-9)) rfl rfl rfl ?_
    refine w_bipush (n := (-9)) rfl rfl rfl ?_
    refine w_iload_n rfl rfl ?_
    refine m_call (as := [vi 4, vi a1, vi (-9), vi (-9), vi a2]) (r := []) rfl rfl rfl rfl rfl rfl (wc_mono H (Nat.le_refl _) ?_)
    rintro _ s2 ⟨r3, rfl, H⟩
    show wm iv L h0 (d + 1) 127 95 [lr 307, li a1, li a2] [vi r3] s2 (qi F)
    exact w_iret rfl rfl ⟨_, rfl, H⟩
  have J96 : (s.2 9 a1 = 1) → wm iv L h0 (d + 1) 127 96 [lr 307, li a1, li a2] [] s (qi F) := fun h => by
    replace H := H.2.1 h
    refine w_aload_n rfl rfl ?_
    refine w_iconst (n := 0) rfl rfl ?_
    refine w_aload_n rfl rfl ?_
    refine m_geta (t := 0) (k := 3004) rfl rfl ?_
    refine w_iload_n rfl rfl ?_
    refine m_ald rfl (f := 10) (k := 3004) rfl g1 ?_
    refine w_bipush (n := (-9)) rfl rfl rfl ?_
    refine w_bipush (n := (-9)) rfl rfl rfl ?_
    refine w_bipush (n := (-9)) rfl rfl rfl ?_
    refine m_call (as := [vi 0, vi (s.2 10 a1), vi (-9), vi (-9), vi (-9)]) (r := []) rfl rfl rfl rfl rfl rfl (wc_mono H (Nat.le_refl _) ?_)
    rintro _ s4 ⟨r5, rfl, H⟩
    show wm iv L h0 (d + 1) 127 113 [lr 307, li a1, li a2] [vi r5] s4 (qi F)
    exact w_iret rfl rfl ⟨_, rfl, H⟩
  have J114 : (s.2 9 a1 = 2) → wm iv L h0 (d + 1) 127 114 [lr 307, li a1, li a2] [] s (qi F) := fun h => by
    replace H := H.2.2.1 h
    refine w_aload_n rfl rfl ?_
    refine w_iconst (n := 1) rfl rfl ?_
    refine w_aload_n rfl rfl ?_
    refine m_geta (t := 0) (k := 3004) rfl rfl ?_
    refine w_iload_n rfl rfl ?_
    refine m_ald rfl (f := 10) (k := 3004) rfl g1 ?_
    refine w_bipush (n := (-9)) rfl rfl rfl ?_
    refine w_bipush (n := (-9)) rfl rfl rfl ?_
    refine w_bipush (n := (-9)) rfl rfl rfl ?_
    refine m_call (as := [vi 1, vi (s.2 10 a1), vi (-9), vi (-9), vi (-9)]) (r := []) rfl rfl rfl rfl rfl rfl (wc_mono H (Nat.le_refl _) ?_)
    rintro _ s6 ⟨r7, rfl, H⟩
    show wm iv L h0 (d + 1) 127 131 [lr 307, li a1, li a2] [vi r7] s6 (qi F)
    exact w_iret rfl rfl ⟨_, rfl, H⟩
  have J132 : (s.2 9 a1 = 3) → wm iv L h0 (d + 1) 127 132 [lr 307, li a1, li a2] [] s (qi F) := fun h => by
    replace H := H.2.2.2.1 h
    refine w_aload_n rfl rfl ?_
    refine m_geta (t := 0) (k := 3004) rfl rfl ?_
    refine w_iload_n rfl rfl ?_
    refine m_ald rfl (f := 21) (k := 3004) rfl g1 ?_
    refine w_iconst (n := 1) rfl rfl ?_
    refine w_icmp_ne rfl (fun h => ?_) (fun h => ?_)
    · replace H := H.1 h
      refine w_aload_n rfl rfl ?_
      refine m_geta (t := 0) (k := 33280) rfl rfl ?_
      refine w_bipush (n := 26) rfl rfl rfl ?_
      refine w_iload_n rfl rfl ?_
      obtain ⟨g8, H⟩ := H
      refine w_imul rfl g8 ?_
      refine w_aload_n rfl rfl ?_
      refine m_geta (t := 0) (k := 3004) rfl rfl ?_
      refine w_iload_n rfl rfl ?_
      refine m_ald rfl (f := 10) (k := 3004) rfl g1 ?_
      obtain ⟨g9, H⟩ := H
      refine w_iadd rfl g9 ?_
      obtain ⟨g10, H⟩ := H
      refine m_ald rfl (f := 53) (k := 33280) rfl g10 ?_
      exact w_iret rfl rfl ⟨_, rfl, H⟩
    · replace H := H.2 h
      refine w_aload_n rfl rfl ?_
      refine w_iconst (n := 5) rfl rfl ?_
      refine w_aload_n rfl rfl ?_
      refine m_geta (t := 0) (k := 3004) rfl rfl ?_
      refine w_iload_n rfl rfl ?_
      refine m_ald rfl (f := 10) (k := 3004) rfl g1 ?_
      refine w_bipush (n := (-9)) rfl rfl rfl ?_
      refine w_bipush (n := (-9)) rfl rfl rfl ?_
      refine w_bipush (n := (-9)) rfl rfl rfl ?_
      refine m_call (as := [vi 5, vi (s.2 10 a1), vi (-9), vi (-9), vi (-9)]) (r := []) rfl rfl rfl rfl rfl rfl (wc_mono H (Nat.le_refl _) ?_)
      rintro _ s11 ⟨r12, rfl, H⟩
      show wm iv L h0 (d + 1) 127 159 [lr 307, li a1, li a2] [vi r12] s11 (qi F)
      refine w_goto rfl ?_
      exact w_iret rfl rfl ⟨_, rfl, H⟩
  have J271 : (s.2 9 a1 = 4 ∨ s.2 9 a1 = 5 ∨ s.2 9 a1 = 6 ∨ s.2 9 a1 = 7 ∨ s.2 9 a1 = 9 ∨ s.2 9 a1 = 11 ∨ s.2 9 a1 = 12 ∨ s.2 9 a1 = 13 ∨ s.2 9 a1 = 14 ∨ s.2 9 a1 < 0 ∨ 15 < s.2 9 a1) → wm iv L h0 (d + 1) 127 271 [lr 307, li a1, li a2] [] s (qi F) := fun h => by
    replace H := H.2.2.2.2.1 h
    refine w_aload_n rfl rfl ?_
    refine w_aload_n rfl rfl ?_
    refine m_geta (t := 0) (k := 9012) rfl rfl ?_
    refine w_iconst (n := 3) rfl rfl ?_
    refine w_iload_n rfl rfl ?_
    obtain ⟨g13, H⟩ := H
    refine w_imul rfl g13 ?_
    obtain ⟨g14, H⟩ := H
    refine m_ald rfl (f := 14) (k := 9012) rfl g14 ?_
    refine w_iload_n rfl rfl ?_
    refine m_call (as := [vi (s.2 14 (3 * a1)), vi a2]) (r := []) rfl rfl rfl rfl rfl rfl (wc_mono H (Nat.le_refl _) ?_)
    rintro _ s15 ⟨r16, rfl, H⟩
    show wm iv L h0 (d + 1) 127 284 [lr 307, li a1, li a2] [vi r16] s15 (qi F)
    refine w_istore_n rfl rfl ?_
    refine w_aload_n rfl rfl ?_
    refine m_geta (t := 0) (k := 3004) rfl rfl ?_
    refine w_iload_n rfl rfl ?_
    refine m_ald rfl (f := 9) (k := 3004) rfl g1 ?_
    obtain ⟨g17, H⟩ := H
    refine w_static (as := [vi (s15.2 9 a1)]) (r := []) rfl rfl rfl rfl rfl (m_parts g17 ?_)
    show wm iv L h0 (d + 1) 127 294 [lr 307, li a1, li a2, li r16] [vi (pO (s15.2 9 a1))] s15 (qi F)
    refine w_iconst (n := 2) rfl rfl ?_
    refine w_icmp_ne rfl (fun h => ?_) (fun h => ?_)
    · replace H := H.1 h
      refine w_iconst (n := 0) rfl rfl ?_
      refine w_istore rfl rfl ?_
      refine w_iload rfl rfl ?_
      refine w_if_eq rfl (fun _ => ?_) (fun h => absurd h (by decide))
      refine w_bipush (n := (-9)) rfl rfl rfl ?_
      refine w_istore rfl rfl ?_
      refine w_aload_n rfl rfl ?_
      refine m_get rfl rfl ?_
      refine w_if_le rfl (fun h => ?_) (fun h => ?_)
      · replace H := H.1 h
        refine w_aload_n rfl rfl ?_
        refine w_iload_n rfl rfl ?_
        refine w_iload_n rfl rfl ?_
        refine w_iload rfl rfl ?_
        refine w_iload_n rfl rfl ?_
        refine m_call (as := [vi a1, vi r16, vi (-9), vi a2]) (r := []) rfl rfl rfl rfl rfl rfl (wc_mono H (Nat.le_refl _) ?_)
        rintro _ s18 ⟨r19, rfl, H⟩
        show wm iv L h0 (d + 1) 127 360 [lr 307, li a1, li a2, li r16, li 0, li (-9)] [vi r19] s18 (qi F)
        exact w_iret rfl rfl ⟨_, rfl, H⟩
      · replace H := H.2 h
        refine w_bipush (n := (-9)) rfl rfl rfl ?_
        refine w_goto rfl ?_
        exact w_iret rfl rfl ⟨_, rfl, H⟩
    · replace H := H.2 h
      refine w_iconst (n := 1) rfl rfl ?_
      refine w_goto rfl ?_
      refine w_istore rfl rfl ?_
      refine w_iload rfl rfl ?_
      refine w_if_eq rfl (fun h => absurd h (by decide)) (fun _ => ?_)
      refine w_aload_n rfl rfl ?_
      refine m_get rfl rfl ?_
      refine w_if_ne rfl (fun h => ?_) (fun h => ?_)
      · replace H := H.1 h
        refine w_bipush (n := (-9)) rfl rfl rfl ?_
        refine w_istore rfl rfl ?_
        refine w_aload_n rfl rfl ?_
        refine m_get rfl rfl ?_
        refine w_if_le rfl (fun h => ?_) (fun h => ?_)
        · replace H := H.1 h
          refine w_aload_n rfl rfl ?_
          refine w_iload_n rfl rfl ?_
          refine w_iload_n rfl rfl ?_
          refine w_iload rfl rfl ?_
          refine w_iload_n rfl rfl ?_
          refine m_call (as := [vi a1, vi r16, vi (-9), vi a2]) (r := []) rfl rfl rfl rfl rfl rfl (wc_mono H (Nat.le_refl _) ?_)
          rintro _ s20 ⟨r21, rfl, H⟩
          show wm iv L h0 (d + 1) 127 360 [lr 307, li a1, li a2, li r16, li 1, li (-9)] [vi r21] s20 (qi F)
          exact w_iret rfl rfl ⟨_, rfl, H⟩
        · replace H := H.2 h
          refine w_bipush (n := (-9)) rfl rfl rfl ?_
          refine w_goto rfl ?_
          exact w_iret rfl rfl ⟨_, rfl, H⟩
      · replace H := H.2 h
        refine w_aload_n rfl rfl ?_
        refine w_aload_n rfl rfl ?_
        refine m_geta (t := 0) (k := 9012) rfl rfl ?_
        refine w_iconst (n := 3) rfl rfl ?_
        refine w_iload_n rfl rfl ?_
        refine w_imul rfl g13 ?_
        refine w_iconst (n := 1) rfl rfl ?_
        obtain ⟨g22, H⟩ := H
        refine w_iadd rfl g22 ?_
        obtain ⟨g23, H⟩ := H
        refine m_ald rfl (f := 14) (k := 9012) rfl g23 ?_
        refine w_iload_n rfl rfl ?_
        refine m_call (as := [vi (s15.2 14 ((3 * a1) + 1)), vi a2]) (r := []) rfl rfl rfl rfl rfl rfl (wc_mono H (Nat.le_refl _) ?_)
        rintro _ s24 ⟨r25, rfl, H⟩
        show wm iv L h0 (d + 1) 127 332 [lr 307, li a1, li a2, li r16, li 1] [vi r25] s24 (qi F)
        refine w_goto rfl ?_
        refine w_istore rfl rfl ?_
        refine w_aload_n rfl rfl ?_
        refine m_get rfl rfl ?_
        refine w_if_le rfl (fun h => ?_) (fun h => ?_)
        · replace H := H.1 h
          refine w_aload_n rfl rfl ?_
          refine w_iload_n rfl rfl ?_
          refine w_iload_n rfl rfl ?_
          refine w_iload rfl rfl ?_
          refine w_iload_n rfl rfl ?_
          refine m_call (as := [vi a1, vi r16, vi r25, vi a2]) (r := []) rfl rfl rfl rfl rfl rfl (wc_mono H (Nat.le_refl _) ?_)
          rintro _ s26 ⟨r27, rfl, H⟩
          show wm iv L h0 (d + 1) 127 360 [lr 307, li a1, li a2, li r16, li 1, li r25] [vi r27] s26 (qi F)
          exact w_iret rfl rfl ⟨_, rfl, H⟩
        · replace H := H.2 h
          refine w_bipush (n := (-9)) rfl rfl rfl ?_
          refine w_goto rfl ?_
          exact w_iret rfl rfl ⟨_, rfl, H⟩
  have J179 : (s.2 9 a1 = 8) → wm iv L h0 (d + 1) 127 179 [lr 307, li a1, li a2] [] s (qi F) := fun h => by
    replace H := H.2.2.2.2.2.1 h
    refine w_aload_n rfl rfl ?_
    refine w_iconst (n := 2) rfl rfl ?_
    refine w_iload_n rfl rfl ?_
    refine w_bipush (n := (-9)) rfl rfl rfl ?_
    refine w_bipush (n := (-9)) rfl rfl rfl ?_
    refine w_iload_n rfl rfl ?_
    refine m_call (as := [vi 2, vi a1, vi (-9), vi (-9), vi a2]) (r := []) rfl rfl rfl rfl rfl rfl (wc_mono H (Nat.le_refl _) ?_)
    rintro _ s28 ⟨r29, rfl, H⟩
    show wm iv L h0 (d + 1) 127 190 [lr 307, li a1, li a2] [vi r29] s28 (qi F)
    exact w_iret rfl rfl ⟨_, rfl, H⟩
  have J205 : (s.2 9 a1 = 10) → wm iv L h0 (d + 1) 127 205 [lr 307, li a1, li a2] [] s (qi F) := fun h => by
    replace H := H.2.2.2.2.2.2.1 h
    refine w_aload_n rfl rfl ?_
    refine w_aload_n rfl rfl ?_
    refine m_geta (t := 0) (k := 9012) rfl rfl ?_
    refine w_iconst (n := 3) rfl rfl ?_
    refine w_iload_n rfl rfl ?_
    obtain ⟨g30, H⟩ := H
    refine w_imul rfl g30 ?_
    obtain ⟨g31, H⟩ := H
    refine m_ald rfl (f := 14) (k := 9012) rfl g31 ?_
    refine w_iload_n rfl rfl ?_
    refine m_call (as := [vi (s.2 14 (3 * a1)), vi a2]) (r := []) rfl rfl rfl rfl rfl rfl (wc_mono H (Nat.le_refl _) ?_)
    rintro _ s32 ⟨r33, rfl, H⟩
    show wm iv L h0 (d + 1) 127 218 [lr 307, li a1, li a2] [vi r33] s32 (qi F)
    refine w_istore_n rfl rfl ?_
    refine w_aload_n rfl rfl ?_
    refine m_get rfl rfl ?_
    refine w_if_le rfl (fun h => ?_) (fun h => ?_)
    · replace H := H.1 h
      refine w_aload_n rfl rfl ?_
      refine w_iload_n rfl rfl ?_
      refine m_call (as := [vi a2]) (r := []) rfl rfl rfl rfl rfl rfl (wc_mono H (Nat.le_refl _) ?_)
      rintro _ s34 ⟨r35, rfl, H⟩
      show wm iv L h0 (d + 1) 127 234 [lr 307, li a1, li a2, li r33] [vi r35] s34 (qi F)
      refine w_istore rfl rfl ?_
      refine w_aload_n rfl rfl ?_
      refine m_geta (t := 0) (k := 33280) rfl rfl ?_
      refine w_bipush (n := 26) rfl rfl rfl ?_
      refine w_iload rfl rfl ?_
      obtain ⟨g36, H⟩ := H
      refine w_imul rfl g36 ?_
      refine w_aload_n rfl rfl ?_
      refine m_geta (t := 0) (k := 3004) rfl rfl ?_
      refine w_iload_n rfl rfl ?_
      refine m_ald rfl (f := 10) (k := 3004) rfl g1 ?_
      obtain ⟨g37, H⟩ := H
      refine w_iadd rfl g37 ?_
      refine w_iload_n rfl rfl ?_
      obtain ⟨g38, H⟩ := H
      refine m_ast rfl (f := 53) (k := 33280) rfl g38 ?_
      refine w_aload_n rfl rfl ?_
      refine w_aload_n rfl rfl ?_
      refine m_geta (t := 0) (k := 9012) rfl rfl ?_
      refine w_iconst (n := 3) rfl rfl ?_
      refine w_iload_n rfl rfl ?_
      refine w_imul rfl g30 ?_
      refine w_iconst (n := 1) rfl rfl ?_
      obtain ⟨g39, H⟩ := H
      refine w_iadd rfl g39 ?_
      obtain ⟨g40, H⟩ := H
      refine m_ald rfl (f := 14) (k := 9012) rfl g40 ?_
      show wm iv L h0 (d + 1) 127 265 [lr 307, li a1, li a2, li r33, li r35] [vi (s34.2 14 ((3 * a1) + 1)), vr 307] (ua s34 53 ((26 * r35) + (s34.2 10 a1)) r33) (qi F)
      refine w_iload rfl rfl ?_
      refine m_call (as := [vi (s34.2 14 ((3 * a1) + 1)), vi r35]) (r := []) rfl rfl rfl rfl rfl rfl (wc_mono H (Nat.le_refl _) ?_)
      rintro _ s41 ⟨r42, rfl, H⟩
      show wm iv L h0 (d + 1) 127 270 [lr 307, li a1, li a2, li r33, li r35] [vi r42] s41 (qi F)
      exact w_iret rfl rfl ⟨_, rfl, H⟩
    · replace H := H.2 h
      refine w_bipush (n := (-9)) rfl rfl rfl ?_
      exact w_iret rfl rfl ⟨_, rfl, H⟩
  have J191 : (s.2 9 a1 = 15) → wm iv L h0 (d + 1) 127 191 [lr 307, li a1, li a2] [] s (qi F) := fun h => by
    replace H := H.2.2.2.2.2.2.2 h
    refine w_aload_n rfl rfl ?_
    refine w_aload_n rfl rfl ?_
    refine m_geta (t := 0) (k := 9012) rfl rfl ?_
    refine w_iconst (n := 3) rfl rfl ?_
    refine w_iload_n rfl rfl ?_
    obtain ⟨g43, H⟩ := H
    refine w_imul rfl g43 ?_
    obtain ⟨g44, H⟩ := H
    refine m_ald rfl (f := 14) (k := 9012) rfl g44 ?_
    refine w_iload_n rfl rfl ?_
    refine m_call (as := [vi (s.2 14 (3 * a1)), vi a2]) (r := []) rfl rfl rfl rfl rfl rfl (wc_mono H (Nat.le_refl _) ?_)
    rintro _ s45 ⟨r46, rfl, H⟩
    show wm iv L h0 (d + 1) 127 204 [lr 307, li a1, li a2] [vi r46] s45 (qi F)
    exact w_iret rfl rfl ⟨_, rfl, H⟩
  refine w_tsw (td := 271) (ts := [84, 96, 114, 132, 271, 271, 271, 271, 179, 271, 205, 271, 271, 271, 271, 191]) rfl rfl rfl rfl rfl rfl (fun h => J271 (by omega)) ?_
  exact swA_c (fun h => J84 (by omega)) (swA_c (fun h => J96 (by omega)) (swA_c (fun h => J114 (by omega)) (swA_c (fun h => J132 (by omega)) (swA_c (fun h => J271 (by omega)) (swA_c (fun h => J271 (by omega)) (swA_c (fun h => J271 (by omega)) (swA_c (fun h => J271 (by omega)) (swA_c (fun h => J179 (by omega)) (swA_c (fun h => J271 (by omega)) (swA_c (fun h => J205 (by omega)) (swA_c (fun h => J271 (by omega)) (swA_c (fun h => J271 (by omega)) (swA_c (fun h => J271 (by omega)) (swA_c (fun h => J271 (by omega)) (swA_c (fun h => J191 (by omega)) (swA_n))))))))))))))))

/-- HoleDeskModel.act(IIII)I -/
theorem B128 {iv : List (Int × Int)} {L : Nat} {h0 : MH} {d : Nat} {s : SM} {a1 : Int} {a2 : Int} {a3 : Int} {a4 : Int} {F : Int → SM → Prop} (H : (0 ≤ a1 ∧ a1 < 3004) ∧ ((s.2 9 a1 = 4 ∨ s.2 9 a1 = 5 ∨ s.2 9 a1 = 6 ∨ s.2 9 a1 = 7 → cm iv L h0 d 129 [vr 307, vi a1, vi a2, vi a3] s (qi fun r3 s2 => F r3 s2)) ∧ (s.2 9 a1 = 8 ∨ s.2 9 a1 = 10 ∨ s.2 9 a1 < 4 ∨ 12 < s.2 9 a1 → (0 ≤ a2 ∧ a2 < 2600) ∧ ((s.2 46 a2 ≠ 3 → cm iv L h0 d 125 [vr 307, vi a2] s (qi fun r6 s5 => ((r6 = 0 → cm iv L h0 d 124 [vr 307, vi 3, vi a1] s5 (qi fun r8 s7 => F r8 s7)) ∧ (r6 ≠ 0 → cm iv L h0 d 121 [vr 307, vi 7, vi a1, vi a2, vi (-9), vi (-9)] s5 (qi fun r10 s9 => F r10 s9))))) ∧ (s.2 46 a2 = 3 → ((s.2 9 a1 ≠ 13 → F (s.2 49 a2) s) ∧ (s.2 9 a1 = 13 → F (s.2 48 a2) s))))) ∧ (s.2 9 a1 = 9 → (0 ≤ a2 ∧ a2 < 2600) ∧ ((s.2 46 a2 ≠ 2 → cm iv L h0 d 125 [vr 307, vi a2] s (qi fun r13 s12 => ((r13 = 0 → cm iv L h0 d 124 [vr 307, vi 3, vi a1] s12 (qi fun r15 s14 => F r15 s14)) ∧ (r13 ≠ 0 → cm iv L h0 d 121 [vr 307, vi 7, vi a1, vi a2, vi a3, vi (-9)] s12 (qi fun r17 s16 => F r17 s16))))) ∧ (s.2 46 a2 = 2 → cm iv L h0 d 122 [vr 307, vi (s.2 50 a2)] s (qi fun r19 s18 => (-2147483648 ≤ 26 * r19 ∧ 26 * r19 ≤ 2147483647) ∧ (0 ≤ s.2 47 a2 ∧ s.2 47 a2 < 3004) ∧ (-2147483648 ≤ (26 * r19) + (s18.2 10 (s.2 47 a2)) ∧ (26 * r19) + (s18.2 10 (s.2 47 a2)) ≤ 2147483647) ∧ (0 ≤ (26 * r19) + (s18.2 10 (s.2 47 a2)) ∧ (26 * r19) + (s18.2 10 (s.2 47 a2)) < 33280) ∧ (-2147483648 ≤ 3 * (s.2 47 a2) ∧ 3 * (s.2 47 a2) ≤ 2147483647) ∧ (0 ≤ 3 * (s.2 47 a2) ∧ 3 * (s.2 47 a2) < 9012) ∧ cm iv L h0 d 126 [vr 307, vi (s18.2 14 (3 * (s.2 47 a2))), vi r19] (ua s18 53 ((26 * r19) + (s18.2 10 (s.2 47 a2))) a3) (qi fun r27 s26 => F r27 s26))))) ∧ (s.2 9 a1 = 11 → (0 ≤ a2 ∧ a2 < 2600) ∧ ((s.2 46 a2 ≠ 1 → cm iv L h0 d 125 [vr 307, vi a2] s (qi fun r30 s29 => ((r30 = 0 → cm iv L h0 d 124 [vr 307, vi 3, vi a1] s29 (qi fun r32 s31 => F r32 s31)) ∧ (r30 ≠ 0 → cm iv L h0 d 121 [vr 307, vi 7, vi a1, vi a2, vi (-9), vi a4] s29 (qi fun r34 s33 => F r34 s33))))) ∧ (s.2 46 a2 = 1 → (-2147483648 ≤ 3 * a1 ∧ 3 * a1 ≤ 2147483647) ∧ ((s.2 47 a2 ≠ 1 → (-2147483648 ≤ (3 * a1) + 2 ∧ (3 * a1) + 2 ≤ 2147483647) ∧ (0 ≤ (3 * a1) + 2 ∧ (3 * a1) + 2 < 9012) ∧ cm iv L h0 d 126 [vr 307, vi (s.2 14 ((3 * a1) + 2)), vi a4] s (qi fun r39 s38 => F r39 s38)) ∧ (s.2 47 a2 = 1 → (-2147483648 ≤ (3 * a1) + 1 ∧ (3 * a1) + 1 ≤ 2147483647) ∧ (0 ≤ (3 * a1) + 1 ∧ (3 * a1) + 1 < 9012) ∧ cm iv L h0 d 126 [vr 307, vi (s.2 14 ((3 * a1) + 1)), vi a4] s (qi fun r43 s42 => F r43 s42)))))) ∧ (s.2 9 a1 = 12 → cm iv L h0 d 121 [vr 307, vi 3, vi (-9), vi a2, vi a3, vi (-9)] s (qi fun r45 s44 => F r45 s44)))) : cm iv L h0 (d + 1) 128 [vr 307, vi a1, vi a2, vi a3, vi a4] s (qi F) := by
  show wm iv L h0 (d + 1) 128 0 [lr 307, li a1, li a2, li a3, li a4] [] s (qi F)
  refine w_aload_n rfl rfl ?_
  refine m_geta (t := 0) (k := 3004) rfl rfl ?_
  refine w_iload_n rfl rfl ?_
  obtain ⟨g1, H⟩ := H
  refine m_ald rfl (f := 9) (k := 3004) rfl g1 ?_
  have J56 : (s.2 9 a1 = 4 ∨ s.2 9 a1 = 5 ∨ s.2 9 a1 = 6 ∨ s.2 9 a1 = 7) → wm iv L h0 (d + 1) 128 56 [lr 307, li a1, li a2, li a3, li a4] [] s (qi F) := fun h => by
    replace H := H.1 h
    refine w_aload_n rfl rfl ?_
    refine w_iload_n rfl rfl ?_
    refine w_iload_n rfl rfl ?_
    refine w_iload_n rfl rfl ?_
    refine m_call (as := [vi a1, vi a2, vi a3]) (r := []) rfl rfl rfl rfl rfl rfl (wc_mono H (Nat.le_refl _) ?_)
    rintro _ s2 ⟨r3, rfl, H⟩
    show wm iv L h0 (d + 1) 128 63 [lr 307, li a1, li a2, li a3, li a4] [vi r3] s2 (qi F)
    exact w_iret rfl rfl ⟨_, rfl, H⟩
  have J241 : (s.2 9 a1 = 8 ∨ s.2 9 a1 = 10 ∨ s.2 9 a1 < 4 ∨ 12 < s.2 9 a1) → wm iv L h0 (d + 1) 128 241 [lr 307, li a1, li a2, li a3, li a4] [] s (qi F) := fun h => by
    replace H := H.2.1 h
    refine w_aload_n rfl rfl ?_
    refine m_geta (t := 0) (k := 2600) rfl rfl ?_
    refine w_iload_n rfl rfl ?_
    obtain ⟨g4, H⟩ := H
    refine m_ald rfl (f := 46) (k := 2600) rfl g4 ?_
    refine w_iconst (n := 3) rfl rfl ?_
    refine w_icmp_ne rfl (fun h => ?_) (fun h => ?_)
    · replace H := H.1 h
      refine w_aload_n rfl rfl ?_
      refine w_iload_n rfl rfl ?_
      refine m_call (as := [vi a2]) (r := []) rfl rfl rfl rfl rfl rfl (wc_mono H (Nat.le_refl _) ?_)
      rintro _ s5 ⟨r6, rfl, H⟩
      show wm iv L h0 (d + 1) 128 283 [lr 307, li a1, li a2, li a3, li a4] [vi r6] s5 (qi F)
      refine w_if_eq rfl (fun h => ?_) (fun h => ?_)
      · replace H := H.1 h
        refine w_aload_n rfl rfl ?_
        refine w_iconst (n := 3) rfl rfl ?_
        refine w_iload_n rfl rfl ?_
        refine m_call (as := [vi 3, vi a1]) (r := []) rfl rfl rfl rfl rfl rfl (wc_mono H (Nat.le_refl _) ?_)
        rintro _ s7 ⟨r8, rfl, H⟩
        show wm iv L h0 (d + 1) 128 307 [lr 307, li a1, li a2, li a3, li a4] [vi r8] s7 (qi F)
        exact w_iret rfl rfl ⟨_, rfl, H⟩
      · replace H := H.2 h
        refine w_aload_n rfl rfl ?_
        refine w_bipush (n := 7) rfl rfl rfl ?_
        refine w_iload_n rfl rfl ?_
        refine w_iload_n rfl rfl ?_
        refine w_bipush (n := (-9)) rfl rfl rfl ?_
        refine w_bipush (n := (-9)) rfl rfl rfl ?_
        refine m_call (as := [vi 7, vi a1, vi a2, vi (-9), vi (-9)]) (r := []) rfl rfl rfl rfl rfl rfl (wc_mono H (Nat.le_refl _) ?_)
        rintro _ s9 ⟨r10, rfl, H⟩
        show wm iv L h0 (d + 1) 128 298 [lr 307, li a1, li a2, li a3, li a4] [vi r10] s9 (qi F)
        refine w_goto rfl ?_
        exact w_iret rfl rfl ⟨_, rfl, H⟩
    · replace H := H.2 h
      refine w_aload_n rfl rfl ?_
      refine m_geta (t := 0) (k := 3004) rfl rfl ?_
      refine w_iload_n rfl rfl ?_
      refine m_ald rfl (f := 9) (k := 3004) rfl g1 ?_
      refine w_bipush (n := 13) rfl rfl rfl ?_
      refine w_icmp_ne rfl (fun h => ?_) (fun h => ?_)
      · replace H := H.1 h
        refine w_aload_n rfl rfl ?_
        refine m_geta (t := 0) (k := 2600) rfl rfl ?_
        refine w_iload_n rfl rfl ?_
        refine m_ald rfl (f := 49) (k := 2600) rfl g4 ?_
        exact w_iret rfl rfl ⟨_, rfl, H⟩
      · replace H := H.2 h
        refine w_aload_n rfl rfl ?_
        refine m_geta (t := 0) (k := 2600) rfl rfl ?_
        refine w_iload_n rfl rfl ?_
        refine m_ald rfl (f := 48) (k := 2600) rfl g4 ?_
        refine w_goto rfl ?_
        exact w_iret rfl rfl ⟨_, rfl, H⟩
  have J64 : (s.2 9 a1 = 9) → wm iv L h0 (d + 1) 128 64 [lr 307, li a1, li a2, li a3, li a4] [] s (qi F) := fun h => by
    replace H := H.2.2.1 h
    refine w_aload_n rfl rfl ?_
    refine m_geta (t := 0) (k := 2600) rfl rfl ?_
    refine w_iload_n rfl rfl ?_
    obtain ⟨g11, H⟩ := H
    refine m_ald rfl (f := 46) (k := 2600) rfl g11 ?_
    refine w_iconst (n := 2) rfl rfl ?_
    refine w_icmp_ne rfl (fun h => ?_) (fun h => ?_)
    · replace H := H.1 h
      refine w_aload_n rfl rfl ?_
      refine w_iload_n rfl rfl ?_
      refine m_call (as := [vi a2]) (r := []) rfl rfl rfl rfl rfl rfl (wc_mono H (Nat.le_refl _) ?_)
      rintro _ s12 ⟨r13, rfl, H⟩
      show wm iv L h0 (d + 1) 128 134 [lr 307, li a1, li a2, li a3, li a4] [vi r13] s12 (qi F)
      refine w_if_eq rfl (fun h => ?_) (fun h => ?_)
      · replace H := H.1 h
        refine w_aload_n rfl rfl ?_
        refine w_iconst (n := 3) rfl rfl ?_
        refine w_iload_n rfl rfl ?_
        refine m_call (as := [vi 3, vi a1]) (r := []) rfl rfl rfl rfl rfl rfl (wc_mono H (Nat.le_refl _) ?_)
        rintro _ s14 ⟨r15, rfl, H⟩
        show wm iv L h0 (d + 1) 128 157 [lr 307, li a1, li a2, li a3, li a4] [vi r15] s14 (qi F)
        exact w_iret rfl rfl ⟨_, rfl, H⟩
      · replace H := H.2 h
        refine w_aload_n rfl rfl ?_
        refine w_bipush (n := 7) rfl rfl rfl ?_
        refine w_iload_n rfl rfl ?_
        refine w_iload_n rfl rfl ?_
        refine w_iload_n rfl rfl ?_
        refine w_bipush (n := (-9)) rfl rfl rfl ?_
        refine m_call (as := [vi 7, vi a1, vi a2, vi a3, vi (-9)]) (r := []) rfl rfl rfl rfl rfl rfl (wc_mono H (Nat.le_refl _) ?_)
        rintro _ s16 ⟨r17, rfl, H⟩
        show wm iv L h0 (d + 1) 128 148 [lr 307, li a1, li a2, li a3, li a4] [vi r17] s16 (qi F)
        refine w_goto rfl ?_
        exact w_iret rfl rfl ⟨_, rfl, H⟩
    · replace H := H.2 h
      refine w_aload_n rfl rfl ?_
      refine m_geta (t := 0) (k := 2600) rfl rfl ?_
      refine w_iload_n rfl rfl ?_
      refine m_ald rfl (f := 47) (k := 2600) rfl g11 ?_
      refine w_istore rfl rfl ?_
      refine w_aload_n rfl rfl ?_
      refine w_aload_n rfl rfl ?_
      refine m_geta (t := 0) (k := 2600) rfl rfl ?_
      refine w_iload_n rfl rfl ?_
      refine m_ald rfl (f := 50) (k := 2600) rfl g11 ?_
      refine m_call (as := [vi (s.2 50 a2)]) (r := []) rfl rfl rfl rfl rfl rfl (wc_mono H (Nat.le_refl _) ?_)
      rintro _ s18 ⟨r19, rfl, H⟩
      show wm iv L h0 (d + 1) 128 92 [lr 307, li a1, li a2, li a3, li a4, li (s.2 47 a2)] [vi r19] s18 (qi F)
      refine w_istore rfl rfl ?_
      refine w_aload_n rfl rfl ?_
      refine m_geta (t := 0) (k := 33280) rfl rfl ?_
      refine w_bipush (n := 26) rfl rfl rfl ?_
      refine w_iload rfl rfl ?_
      obtain ⟨g20, H⟩ := H
      refine w_imul rfl g20 ?_
      refine w_aload_n rfl rfl ?_
      refine m_geta (t := 0) (k := 3004) rfl rfl ?_
      refine w_iload rfl rfl ?_
      obtain ⟨g21, H⟩ := H
      refine m_ald rfl (f := 10) (k := 3004) rfl g21 ?_
      obtain ⟨g22, H⟩ := H
      refine w_iadd rfl g22 ?_
      refine w_iload_n rfl rfl ?_
      obtain ⟨g23, H⟩ := H
      refine m_ast rfl (f := 53) (k := 33280) rfl g23 ?_
      refine w_aload_n rfl rfl ?_
      refine w_aload_n rfl rfl ?_
      refine m_geta (t := 0) (k := 9012) rfl rfl ?_
      refine w_iconst (n := 3) rfl rfl ?_
      refine w_iload rfl rfl ?_
      obtain ⟨g24, H⟩ := H
      refine w_imul rfl g24 ?_
      obtain ⟨g25, H⟩ := H
      refine m_ald rfl (f := 14) (k := 9012) rfl g25 ?_
      show wm iv L h0 (d + 1) 128 123 [lr 307, li a1, li a2, li a3, li a4, li (s.2 47 a2), li r19] [vi (s18.2 14 (3 * (s.2 47 a2))), vr 307] (ua s18 53 ((26 * r19) + (s18.2 10 (s.2 47 a2))) a3) (qi F)
      refine w_iload rfl rfl ?_
      refine m_call (as := [vi (s18.2 14 (3 * (s.2 47 a2))), vi r19]) (r := []) rfl rfl rfl rfl rfl rfl (wc_mono H (Nat.le_refl _) ?_)
      rintro _ s26 ⟨r27, rfl, H⟩
      show wm iv L h0 (d + 1) 128 128 [lr 307, li a1, li a2, li a3, li a4, li (s.2 47 a2), li r19] [vi r27] s26 (qi F)
      exact w_iret rfl rfl ⟨_, rfl, H⟩
  have J158 : (s.2 9 a1 = 11) → wm iv L h0 (d + 1) 128 158 [lr 307, li a1, li a2, li a3, li a4] [] s (qi F) := fun h => by
    replace H := H.2.2.2.1 h
    refine w_aload_n rfl rfl ?_
    refine m_geta (t := 0) (k := 2600) rfl rfl ?_
    refine w_iload_n rfl rfl ?_
    obtain ⟨g28, H⟩ := H
    refine m_ald rfl (f := 46) (k := 2600) rfl g28 ?_
    refine w_iconst (n := 1) rfl rfl ?_
    refine w_icmp_ne rfl (fun h => ?_) (fun h => ?_)
    · replace H := H.1 h
      refine w_aload_n rfl rfl ?_
      refine w_iload_n rfl rfl ?_
      refine m_call (as := [vi a2]) (r := []) rfl rfl rfl rfl rfl rfl (wc_mono H (Nat.le_refl _) ?_)
      rintro _ s29 ⟨r30, rfl, H⟩
      show wm iv L h0 (d + 1) 128 204 [lr 307, li a1, li a2, li a3, li a4] [vi r30] s29 (qi F)
      refine w_if_eq rfl (fun h => ?_) (fun h => ?_)
      · replace H := H.1 h
        refine w_aload_n rfl rfl ?_
        refine w_iconst (n := 3) rfl rfl ?_
        refine w_iload_n rfl rfl ?_
        refine m_call (as := [vi 3, vi a1]) (r := []) rfl rfl rfl rfl rfl rfl (wc_mono H (Nat.le_refl _) ?_)
        rintro _ s31 ⟨r32, rfl, H⟩
        show wm iv L h0 (d + 1) 128 228 [lr 307, li a1, li a2, li a3, li a4] [vi r32] s31 (qi F)
        exact w_iret rfl rfl ⟨_, rfl, H⟩
      · replace H := H.2 h
        refine w_aload_n rfl rfl ?_
        refine w_bipush (n := 7) rfl rfl rfl ?_
        refine w_iload_n rfl rfl ?_
        refine w_iload_n rfl rfl ?_
        refine w_bipush (n := (-9)) rfl rfl rfl ?_
        refine w_iload rfl rfl ?_
        refine m_call (as := [vi 7, vi a1, vi a2, vi (-9), vi a4]) (r := []) rfl rfl rfl rfl rfl rfl (wc_mono H (Nat.le_refl _) ?_)
        rintro _ s33 ⟨r34, rfl, H⟩
        show wm iv L h0 (d + 1) 128 219 [lr 307, li a1, li a2, li a3, li a4] [vi r34] s33 (qi F)
        refine w_goto rfl ?_
        exact w_iret rfl rfl ⟨_, rfl, H⟩
    · replace H := H.2 h
      refine w_aload_n rfl rfl ?_
      refine w_aload_n rfl rfl ?_
      refine m_geta (t := 0) (k := 9012) rfl rfl ?_
      refine w_iconst (n := 3) rfl rfl ?_
      refine w_iload_n rfl rfl ?_
      obtain ⟨g35, H⟩ := H
      refine w_imul rfl g35 ?_
      refine w_aload_n rfl rfl ?_
      refine m_geta (t := 0) (k := 2600) rfl rfl ?_
      refine w_iload_n rfl rfl ?_
      refine m_ald rfl (f := 47) (k := 2600) rfl g28 ?_
      refine w_iconst (n := 1) rfl rfl ?_
      refine w_icmp_ne rfl (fun h => ?_) (fun h => ?_)
      · replace H := H.1 h
        refine w_iconst (n := 2) rfl rfl ?_
        obtain ⟨g36, H⟩ := H
        refine w_iadd rfl g36 ?_
        obtain ⟨g37, H⟩ := H
        refine m_ald rfl (f := 14) (k := 9012) rfl g37 ?_
        refine w_iload rfl rfl ?_
        refine m_call (as := [vi (s.2 14 ((3 * a1) + 2)), vi a4]) (r := []) rfl rfl rfl rfl rfl rfl (wc_mono H (Nat.le_refl _) ?_)
        rintro _ s38 ⟨r39, rfl, H⟩
        show wm iv L h0 (d + 1) 128 198 [lr 307, li a1, li a2, li a3, li a4] [vi r39] s38 (qi F)
        exact w_iret rfl rfl ⟨_, rfl, H⟩
      · replace H := H.2 h
        refine w_iconst (n := 1) rfl rfl ?_
        refine w_goto rfl ?_
        obtain ⟨g40, H⟩ := H
        refine w_iadd rfl g40 ?_
        obtain ⟨g41, H⟩ := H
        refine m_ald rfl (f := 14) (k := 9012) rfl g41 ?_
        refine w_iload rfl rfl ?_
        refine m_call (as := [vi (s.2 14 ((3 * a1) + 1)), vi a4]) (r := []) rfl rfl rfl rfl rfl rfl (wc_mono H (Nat.le_refl _) ?_)
        rintro _ s42 ⟨r43, rfl, H⟩
        show wm iv L h0 (d + 1) 128 198 [lr 307, li a1, li a2, li a3, li a4] [vi r43] s42 (qi F)
        exact w_iret rfl rfl ⟨_, rfl, H⟩
  have J229 : (s.2 9 a1 = 12) → wm iv L h0 (d + 1) 128 229 [lr 307, li a1, li a2, li a3, li a4] [] s (qi F) := fun h => by
    replace H := H.2.2.2.2 h
    refine w_aload_n rfl rfl ?_
    refine w_iconst (n := 3) rfl rfl ?_
    refine w_bipush (n := (-9)) rfl rfl rfl ?_
    refine w_iload_n rfl rfl ?_
    refine w_iload_n rfl rfl ?_
    refine w_bipush (n := (-9)) rfl rfl rfl ?_
    refine m_call (as := [vi 3, vi (-9), vi a2, vi a3, vi (-9)]) (r := []) rfl rfl rfl rfl rfl rfl (wc_mono H (Nat.le_refl _) ?_)
    rintro _ s44 ⟨r45, rfl, H⟩
    show wm iv L h0 (d + 1) 128 240 [lr 307, li a1, li a2, li a3, li a4] [vi r45] s44 (qi F)
    exact w_iret rfl rfl ⟨_, rfl, H⟩
  refine w_tsw (td := 241) (ts := [56, 56, 56, 56, 241, 64, 241, 158, 229]) rfl rfl rfl rfl rfl rfl (fun h => J241 (by omega)) ?_
  exact swA_c (fun h => J56 (by omega)) (swA_c (fun h => J56 (by omega)) (swA_c (fun h => J56 (by omega)) (swA_c (fun h => J56 (by omega)) (swA_c (fun h => J241 (by omega)) (swA_c (fun h => J64 (by omega)) (swA_c (fun h => J241 (by omega)) (swA_c (fun h => J158 (by omega)) (swA_c (fun h => J229 (by omega)) (swA_n)))))))))

/-- HoleDeskModel.reckoned(III)I -/
theorem B129 {iv : List (Int × Int)} {L : Nat} {h0 : MH} {d : Nat} {s : SM} {a1 : Int} {a2 : Int} {a3 : Int} {F : Int → SM → Prop} (H : cm iv L h0 d 125 [vr 307, vi a2] s (qi fun r2 s1 => ((r2 ≠ 0 → cm iv L h0 d 121 [vr 307, vi 7, vi a1, vi a2, vi a3, vi (-9)] s1 (qi fun r4 s3 => F r4 s3)) ∧ (r2 = 0 → cm iv L h0 d 125 [vr 307, vi a3] s1 (qi fun r6 s5 => ((r6 = 0 → (0 ≤ a2 ∧ a2 < 2600) ∧ ((s5.2 46 a2 ≠ 0 → cm iv L h0 d 124 [vr 307, vi 3, vi a1] s5 (qi fun r9 s8 => F r9 s8)) ∧ (s5.2 46 a2 = 0 → (0 ≤ a3 ∧ a3 < 2600) ∧ ((s5.2 46 a3 = 0 → (0 ≤ a1 ∧ a1 < 3004) ∧ ((s5.2 9 a1 ≠ 7 → ((s5.2 9 a1 ≠ 6 → ((s5.2 9 a1 ≠ 4 → ((s5.2 9 a1 ≠ 5 → ((s5.2 47 a3 ≠ (-1) → (s5.2 47 a3 ≠ 0) ∧ (-2147483648 ≤ (s5.2 47 a2).tdiv (s5.2 47 a3) ∧ (s5.2 47 a2).tdiv (s5.2 47 a3) ≤ 2147483647) ∧ cm iv L h0 d 121 [vr 307, vi 0, vi ((s5.2 47 a2).tdiv (s5.2 47 a3)), vi (-9), vi (-9), vi (-9)] s5 (qi fun r15 s14 => F r15 s14)) ∧ (s5.2 47 a3 = (-1) → cm iv L h0 d 121 [vr 307, vi 0, vi (w32 (-(s5.2 47 a2))), vi (-9), vi (-9), vi (-9)] s5 (qi fun r17 s16 => F r17 s16)))) ∧ (s5.2 9 a1 = 5 → cm iv L h0 d 121 [vr 307, vi 0, vi (w32 ((s5.2 47 a2) * (s5.2 47 a3))), vi (-9), vi (-9), vi (-9)] s5 (qi fun r19 s18 => F r19 s18)))) ∧ (s5.2 9 a1 = 4 → cm iv L h0 d 121 [vr 307, vi 0, vi (w32 ((s5.2 47 a2) + (s5.2 47 a3))), vi (-9), vi (-9), vi (-9)] s5 (qi fun r21 s20 => F r21 s20)))) ∧ (s5.2 9 a1 = 6 → ((s5.2 47 a3 ≠ 0 → ((s5.2 9 a1 ≠ 4 → ((s5.2 9 a1 ≠ 5 → ((s5.2 47 a3 ≠ (-1) → (s5.2 47 a3 ≠ 0) ∧ (-2147483648 ≤ (s5.2 47 a2).tdiv (s5.2 47 a3) ∧ (s5.2 47 a2).tdiv (s5.2 47 a3) ≤ 2147483647) ∧ cm iv L h0 d 121 [vr 307, vi 0, vi ((s5.2 47 a2).tdiv (s5.2 47 a3)), vi (-9), vi (-9), vi (-9)] s5 (qi fun r25 s24 => F r25 s24)) ∧ (s5.2 47 a3 = (-1) → cm iv L h0 d 121 [vr 307, vi 0, vi (w32 (-(s5.2 47 a2))), vi (-9), vi (-9), vi (-9)] s5 (qi fun r27 s26 => F r27 s26)))) ∧ (s5.2 9 a1 = 5 → cm iv L h0 d 121 [vr 307, vi 0, vi (w32 ((s5.2 47 a2) * (s5.2 47 a3))), vi (-9), vi (-9), vi (-9)] s5 (qi fun r29 s28 => F r29 s28)))) ∧ (s5.2 9 a1 = 4 → cm iv L h0 d 121 [vr 307, vi 0, vi (w32 ((s5.2 47 a2) + (s5.2 47 a3))), vi (-9), vi (-9), vi (-9)] s5 (qi fun r31 s30 => F r31 s30)))) ∧ (s5.2 47 a3 = 0 → cm iv L h0 d 124 [vr 307, vi 2, vi a1] s5 (qi fun r33 s32 => F r33 s32)))))) ∧ (s5.2 9 a1 = 7 → ((s5.2 47 a3 ≤ s5.2 47 a2 → cm iv L h0 d 121 [vr 307, vi 1, vi 0, vi (-9), vi (-9), vi (-9)] s5 (qi fun r35 s34 => F r35 s34)) ∧ (s5.2 47 a2 < s5.2 47 a3 → cm iv L h0 d 121 [vr 307, vi 1, vi 1, vi (-9), vi (-9), vi (-9)] s5 (qi fun r37 s36 => F r37 s36)))))) ∧ (s5.2 46 a3 ≠ 0 → cm iv L h0 d 124 [vr 307, vi 3, vi a1] s5 (qi fun r39 s38 => F r39 s38)))))) ∧ (r6 ≠ 0 → cm iv L h0 d 121 [vr 307, vi 7, vi a1, vi a2, vi a3, vi (-9)] s5 (qi fun r41 s40 => F r41 s40)))))))) : cm iv L h0 (d + 1) 129 [vr 307, vi a1, vi a2, vi a3] s (qi F) := by
  show wm iv L h0 (d + 1) 129 0 [lr 307, li a1, li a2, li a3] [] s (qi F)
  refine w_aload_n rfl rfl ?_
  refine w_iload_n rfl rfl ?_
  refine m_call (as := [vi a2]) (r := []) rfl rfl rfl rfl rfl rfl (wc_mono H (Nat.le_refl _) ?_)
  rintro _ s1 ⟨r2, rfl, H⟩
  show wm iv L h0 (d + 1) 129 5 [lr 307, li a1, li a2, li a3] [vi r2] s1 (qi F)
  refine w_if_ne rfl (fun h => ?_) (fun h => ?_)
  · replace H := H.1 h
    refine w_aload_n rfl rfl ?_
    refine w_bipush (n := 7) rfl rfl rfl ?_
    refine w_iload_n rfl rfl ?_
    refine w_iload_n rfl rfl ?_
    refine w_iload_n rfl rfl ?_
    refine w_bipush (n := (-9)) rfl rfl rfl ?_
    refine m_call (as := [vi 7, vi a1, vi a2, vi a3, vi (-9)]) (r := []) rfl rfl rfl rfl rfl rfl (wc_mono H (Nat.le_refl _) ?_)
    rintro _ s3 ⟨r4, rfl, H⟩
    show wm iv L h0 (d + 1) 129 27 [lr 307, li a1, li a2, li a3] [vi r4] s3 (qi F)
    exact w_iret rfl rfl ⟨_, rfl, H⟩
  · replace H := H.2 h
    refine w_aload_n rfl rfl ?_
    refine w_iload_n rfl rfl ?_
    refine m_call (as := [vi a3]) (r := []) rfl rfl rfl rfl rfl rfl (wc_mono H (Nat.le_refl _) ?_)
    rintro _ s5 ⟨r6, rfl, H⟩
    show wm iv L h0 (d + 1) 129 13 [lr 307, li a1, li a2, li a3] [vi r6] s5 (qi F)
    refine w_if_eq rfl (fun h => ?_) (fun h => ?_)
    · replace H := H.1 h
      refine w_aload_n rfl rfl ?_
      refine m_geta (t := 0) (k := 2600) rfl rfl ?_
      refine w_iload_n rfl rfl ?_
      obtain ⟨g7, H⟩ := H
      refine m_ald rfl (f := 46) (k := 2600) rfl g7 ?_
      refine w_if_ne rfl (fun h => ?_) (fun h => ?_)
      · replace H := H.1 h
        refine w_aload_n rfl rfl ?_
        refine w_iconst (n := 3) rfl rfl ?_
        refine w_iload_n rfl rfl ?_
        refine m_call (as := [vi 3, vi a1]) (r := []) rfl rfl rfl rfl rfl rfl (wc_mono H (Nat.le_refl _) ?_)
        rintro _ s8 ⟨r9, rfl, H⟩
        show wm iv L h0 (d + 1) 129 52 [lr 307, li a1, li a2, li a3] [vi r9] s8 (qi F)
        exact w_iret rfl rfl ⟨_, rfl, H⟩
      · replace H := H.2 h
        refine w_aload_n rfl rfl ?_
        refine m_geta (t := 0) (k := 2600) rfl rfl ?_
        refine w_iload_n rfl rfl ?_
        obtain ⟨g10, H⟩ := H
        refine m_ald rfl (f := 46) (k := 2600) rfl g10 ?_
        refine w_if_eq rfl (fun h => ?_) (fun h => ?_)
        · replace H := H.1 h
          refine w_aload_n rfl rfl ?_
          refine m_geta (t := 0) (k := 2600) rfl rfl ?_
          refine w_iload_n rfl rfl ?_
          refine m_ald rfl (f := 47) (k := 2600) rfl g7 ?_
          refine w_istore rfl rfl ?_
          refine w_aload_n rfl rfl ?_
          refine m_geta (t := 0) (k := 2600) rfl rfl ?_
          refine w_iload_n rfl rfl ?_
          refine m_ald rfl (f := 47) (k := 2600) rfl g10 ?_
          refine w_istore rfl rfl ?_
          refine w_aload_n rfl rfl ?_
          refine m_geta (t := 0) (k := 3004) rfl rfl ?_
          refine w_iload_n rfl rfl ?_
          obtain ⟨g11, H⟩ := H
          refine m_ald rfl (f := 9) (k := 3004) rfl g11 ?_
          refine w_bipush (n := 7) rfl rfl rfl ?_
          refine w_icmp_ne rfl (fun h => ?_) (fun h => ?_)
          · replace H := H.1 h
            refine w_aload_n rfl rfl ?_
            refine m_geta (t := 0) (k := 3004) rfl rfl ?_
            refine w_iload_n rfl rfl ?_
            refine m_ald rfl (f := 9) (k := 3004) rfl g11 ?_
            refine w_bipush (n := 6) rfl rfl rfl ?_
            refine w_icmp_ne rfl (fun h => ?_) (fun h => ?_)
            · replace H := H.1 h
              refine w_aload_n rfl rfl ?_
              refine m_geta (t := 0) (k := 3004) rfl rfl ?_
              refine w_iload_n rfl rfl ?_
              refine m_ald rfl (f := 9) (k := 3004) rfl g11 ?_
              refine w_iconst (n := 4) rfl rfl ?_
              refine w_icmp_ne rfl (fun h => ?_) (fun h => ?_)
              · replace H := H.1 h
                refine w_aload_n rfl rfl ?_
                refine m_geta (t := 0) (k := 3004) rfl rfl ?_
                refine w_iload_n rfl rfl ?_
                refine m_ald rfl (f := 9) (k := 3004) rfl g11 ?_
                refine w_iconst (n := 5) rfl rfl ?_
                refine w_icmp_ne rfl (fun h => ?_) (fun h => ?_)
                · replace H := H.1 h
                  refine w_iload rfl rfl ?_
                  refine w_iconst (n := (-1)) rfl rfl ?_
                  refine w_icmp_ne rfl (fun h => ?_) (fun h => ?_)
                  · replace H := H.1 h
                    refine w_iload rfl rfl ?_
                    refine w_iload rfl rfl ?_
                    obtain ⟨g12, H⟩ := H
                    obtain ⟨g13, H⟩ := H
                    refine w_idiv rfl g12 g13 ?_
                    refine w_istore rfl rfl ?_
                    refine w_aload_n rfl rfl ?_
                    refine w_iconst (n := 0) rfl rfl ?_
                    refine w_iload rfl rfl ?_
                    refine w_bipush (n := (-9)) rfl rfl rfl ?_
                    refine w_bipush (n := (-9)) rfl rfl rfl ?_
                    refine w_bipush (n := (-9)) rfl rfl rfl ?_
                    refine m_call (as := [vi 0, vi ((s5.2 47 a2).tdiv (s5.2 47 a3)), vi (-9), vi (-9), vi (-9)]) (r := []) rfl rfl rfl rfl rfl rfl (wc_mono H (Nat.le_refl _) ?_)
                    rintro _ s14 ⟨r15, rfl, H⟩
                    show wm iv L h0 (d + 1) 129 195 [lr 307, li a1, li a2, li a3, li (s5.2 47 a2), li (s5.2 47 a3), li ((s5.2 47 a2).tdiv (s5.2 47 a3))] [vi r15] s14 (qi F)
                    exact w_iret rfl rfl ⟨_, rfl, H⟩
                  · replace H := H.2 h
                    refine w_iload rfl rfl ?_
                    refine w_inegw rfl ?_
                    refine w_goto rfl ?_
                    refine w_istore rfl rfl ?_
                    refine w_aload_n rfl rfl ?_
                    refine w_iconst (n := 0) rfl rfl ?_
                    refine w_iload rfl rfl ?_
                    refine w_bipush (n := (-9)) rfl rfl rfl ?_
                    refine w_bipush (n := (-9)) rfl rfl rfl ?_
                    refine w_bipush (n := (-9)) rfl rfl rfl ?_
                    refine m_call (as := [vi 0, vi (w32 (-(s5.2 47 a2))), vi (-9), vi (-9), vi (-9)]) (r := []) rfl rfl rfl rfl rfl rfl (wc_mono H (Nat.le_refl _) ?_)
                    rintro _ s16 ⟨r17, rfl, H⟩
                    show wm iv L h0 (d + 1) 129 195 [lr 307, li a1, li a2, li a3, li (s5.2 47 a2), li (s5.2 47 a3), li (w32 (-(s5.2 47 a2)))] [vi r17] s16 (qi F)
                    exact w_iret rfl rfl ⟨_, rfl, H⟩
                · replace H := H.2 h
                  refine w_iload rfl rfl ?_
                  refine w_iload rfl rfl ?_
                  refine w_imulw rfl ?_
                  refine w_goto rfl ?_
                  refine w_istore rfl rfl ?_
                  refine w_aload_n rfl rfl ?_
                  refine w_iconst (n := 0) rfl rfl ?_
                  refine w_iload rfl rfl ?_
                  refine w_bipush (n := (-9)) rfl rfl rfl ?_
                  refine w_bipush (n := (-9)) rfl rfl rfl ?_
                  refine w_bipush (n := (-9)) rfl rfl rfl ?_
                  refine m_call (as := [vi 0, vi (w32 ((s5.2 47 a2) * (s5.2 47 a3))), vi (-9), vi (-9), vi (-9)]) (r := []) rfl rfl rfl rfl rfl rfl (wc_mono H (Nat.le_refl _) ?_)
                  rintro _ s18 ⟨r19, rfl, H⟩
                  show wm iv L h0 (d + 1) 129 195 [lr 307, li a1, li a2, li a3, li (s5.2 47 a2), li (s5.2 47 a3), li (w32 ((s5.2 47 a2) * (s5.2 47 a3)))] [vi r19] s18 (qi F)
                  exact w_iret rfl rfl ⟨_, rfl, H⟩
              · replace H := H.2 h
                refine w_iload rfl rfl ?_
                refine w_iload rfl rfl ?_
                refine w_iaddw rfl ?_
                refine w_goto rfl ?_
                refine w_istore rfl rfl ?_
                refine w_aload_n rfl rfl ?_
                refine w_iconst (n := 0) rfl rfl ?_
                refine w_iload rfl rfl ?_
                refine w_bipush (n := (-9)) rfl rfl rfl ?_
                refine w_bipush (n := (-9)) rfl rfl rfl ?_
                refine w_bipush (n := (-9)) rfl rfl rfl ?_
                refine m_call (as := [vi 0, vi (w32 ((s5.2 47 a2) + (s5.2 47 a3))), vi (-9), vi (-9), vi (-9)]) (r := []) rfl rfl rfl rfl rfl rfl (wc_mono H (Nat.le_refl _) ?_)
                rintro _ s20 ⟨r21, rfl, H⟩
                show wm iv L h0 (d + 1) 129 195 [lr 307, li a1, li a2, li a3, li (s5.2 47 a2), li (s5.2 47 a3), li (w32 ((s5.2 47 a2) + (s5.2 47 a3)))] [vi r21] s20 (qi F)
                exact w_iret rfl rfl ⟨_, rfl, H⟩
            · replace H := H.2 h
              refine w_iload rfl rfl ?_
              refine w_if_ne rfl (fun h => ?_) (fun h => ?_)
              · replace H := H.1 h
                refine w_aload_n rfl rfl ?_
                refine m_geta (t := 0) (k := 3004) rfl rfl ?_
                refine w_iload_n rfl rfl ?_
                refine m_ald rfl (f := 9) (k := 3004) rfl g11 ?_
                refine w_iconst (n := 4) rfl rfl ?_
                refine w_icmp_ne rfl (fun h => ?_) (fun h => ?_)
                · replace H := H.1 h
                  refine w_aload_n rfl rfl ?_
                  refine m_geta (t := 0) (k := 3004) rfl rfl ?_
                  refine w_iload_n rfl rfl ?_
                  refine m_ald rfl (f := 9) (k := 3004) rfl g11 ?_
                  refine w_iconst (n := 5) rfl rfl ?_
                  refine w_icmp_ne rfl (fun h => ?_) (fun h => ?_)
                  · replace H := H.1 h
                    refine w_iload rfl rfl ?_
                    refine w_iconst (n := (-1)) rfl rfl ?_
                    refine w_icmp_ne rfl (fun h => ?_) (fun h => ?_)
                    · replace H := H.1 h
                      refine w_iload rfl rfl ?_
                      refine w_iload rfl rfl ?_
                      obtain ⟨g22, H⟩ := H
                      obtain ⟨g23, H⟩ := H
                      refine w_idiv rfl g22 g23 ?_
                      refine w_istore rfl rfl ?_
                      refine w_aload_n rfl rfl ?_
                      refine w_iconst (n := 0) rfl rfl ?_
                      refine w_iload rfl rfl ?_
                      refine w_bipush (n := (-9)) rfl rfl rfl ?_
                      refine w_bipush (n := (-9)) rfl rfl rfl ?_
                      refine w_bipush (n := (-9)) rfl rfl rfl ?_
                      refine m_call (as := [vi 0, vi ((s5.2 47 a2).tdiv (s5.2 47 a3)), vi (-9), vi (-9), vi (-9)]) (r := []) rfl rfl rfl rfl rfl rfl (wc_mono H (Nat.le_refl _) ?_)
                      rintro _ s24 ⟨r25, rfl, H⟩
                      show wm iv L h0 (d + 1) 129 195 [lr 307, li a1, li a2, li a3, li (s5.2 47 a2), li (s5.2 47 a3), li ((s5.2 47 a2).tdiv (s5.2 47 a3))] [vi r25] s24 (qi F)
                      exact w_iret rfl rfl ⟨_, rfl, H⟩
                    · replace H := H.2 h
                      refine w_iload rfl rfl ?_
                      refine w_inegw rfl ?_
                      refine w_goto rfl ?_
                      refine w_istore rfl rfl ?_
                      refine w_aload_n rfl rfl ?_
                      refine w_iconst (n := 0) rfl rfl ?_
                      refine w_iload rfl rfl ?_
                      refine w_bipush (n := (-9)) rfl rfl rfl ?_
                      refine w_bipush (n := (-9)) rfl rfl rfl ?_
                      refine w_bipush (n := (-9)) rfl rfl rfl ?_
                      refine m_call (as := [vi 0, vi (w32 (-(s5.2 47 a2))), vi (-9), vi (-9), vi (-9)]) (r := []) rfl rfl rfl rfl rfl rfl (wc_mono H (Nat.le_refl _) ?_)
                      rintro _ s26 ⟨r27, rfl, H⟩
                      show wm iv L h0 (d + 1) 129 195 [lr 307, li a1, li a2, li a3, li (s5.2 47 a2), li (s5.2 47 a3), li (w32 (-(s5.2 47 a2)))] [vi r27] s26 (qi F)
                      exact w_iret rfl rfl ⟨_, rfl, H⟩
                  · replace H := H.2 h
                    refine w_iload rfl rfl ?_
                    refine w_iload rfl rfl ?_
                    refine w_imulw rfl ?_
                    refine w_goto rfl ?_
                    refine w_istore rfl rfl ?_
                    refine w_aload_n rfl rfl ?_
                    refine w_iconst (n := 0) rfl rfl ?_
                    refine w_iload rfl rfl ?_
                    refine w_bipush (n := (-9)) rfl rfl rfl ?_
                    refine w_bipush (n := (-9)) rfl rfl rfl ?_
                    refine w_bipush (n := (-9)) rfl rfl rfl ?_
                    refine m_call (as := [vi 0, vi (w32 ((s5.2 47 a2) * (s5.2 47 a3))), vi (-9), vi (-9), vi (-9)]) (r := []) rfl rfl rfl rfl rfl rfl (wc_mono H (Nat.le_refl _) ?_)
                    rintro _ s28 ⟨r29, rfl, H⟩
                    show wm iv L h0 (d + 1) 129 195 [lr 307, li a1, li a2, li a3, li (s5.2 47 a2), li (s5.2 47 a3), li (w32 ((s5.2 47 a2) * (s5.2 47 a3)))] [vi r29] s28 (qi F)
                    exact w_iret rfl rfl ⟨_, rfl, H⟩
                · replace H := H.2 h
                  refine w_iload rfl rfl ?_
                  refine w_iload rfl rfl ?_
                  refine w_iaddw rfl ?_
                  refine w_goto rfl ?_
                  refine w_istore rfl rfl ?_
                  refine w_aload_n rfl rfl ?_
                  refine w_iconst (n := 0) rfl rfl ?_
                  refine w_iload rfl rfl ?_
                  refine w_bipush (n := (-9)) rfl rfl rfl ?_
                  refine w_bipush (n := (-9)) rfl rfl rfl ?_
                  refine w_bipush (n := (-9)) rfl rfl rfl ?_
                  refine m_call (as := [vi 0, vi (w32 ((s5.2 47 a2) + (s5.2 47 a3))), vi (-9), vi (-9), vi (-9)]) (r := []) rfl rfl rfl rfl rfl rfl (wc_mono H (Nat.le_refl _) ?_)
                  rintro _ s30 ⟨r31, rfl, H⟩
                  show wm iv L h0 (d + 1) 129 195 [lr 307, li a1, li a2, li a3, li (s5.2 47 a2), li (s5.2 47 a3), li (w32 ((s5.2 47 a2) + (s5.2 47 a3)))] [vi r31] s30 (qi F)
                  exact w_iret rfl rfl ⟨_, rfl, H⟩
              · replace H := H.2 h
                refine w_aload_n rfl rfl ?_
                refine w_iconst (n := 2) rfl rfl ?_
                refine w_iload_n rfl rfl ?_
                refine m_call (as := [vi 2, vi a1]) (r := []) rfl rfl rfl rfl rfl rfl (wc_mono H (Nat.le_refl _) ?_)
                rintro _ s32 ⟨r33, rfl, H⟩
                show wm iv L h0 (d + 1) 129 126 [lr 307, li a1, li a2, li a3, li (s5.2 47 a2), li (s5.2 47 a3)] [vi r33] s32 (qi F)
                exact w_iret rfl rfl ⟨_, rfl, H⟩
          · replace H := H.2 h
            refine w_aload_n rfl rfl ?_
            refine w_iconst (n := 1) rfl rfl ?_
            refine w_iload rfl rfl ?_
            refine w_iload rfl rfl ?_
            refine w_icmp_ge rfl (fun h => ?_) (fun h => ?_)
            · replace H := H.1 h
              refine w_iconst (n := 0) rfl rfl ?_
              refine w_bipush (n := (-9)) rfl rfl rfl ?_
              refine w_bipush (n := (-9)) rfl rfl rfl ?_
              refine w_bipush (n := (-9)) rfl rfl rfl ?_
              refine m_call (as := [vi 1, vi 0, vi (-9), vi (-9), vi (-9)]) (r := []) rfl rfl rfl rfl rfl rfl (wc_mono H (Nat.le_refl _) ?_)
              rintro _ s34 ⟨r35, rfl, H⟩
              show wm iv L h0 (d + 1) 129 103 [lr 307, li a1, li a2, li a3, li (s5.2 47 a2), li (s5.2 47 a3)] [vi r35] s34 (qi F)
              exact w_iret rfl rfl ⟨_, rfl, H⟩
            · replace H := H.2 h
              refine w_iconst (n := 1) rfl rfl ?_
              refine w_goto rfl ?_
              refine w_bipush (n := (-9)) rfl rfl rfl ?_
              refine w_bipush (n := (-9)) rfl rfl rfl ?_
              refine w_bipush (n := (-9)) rfl rfl rfl ?_
              refine m_call (as := [vi 1, vi 1, vi (-9), vi (-9), vi (-9)]) (r := []) rfl rfl rfl rfl rfl rfl (wc_mono H (Nat.le_refl _) ?_)
              rintro _ s36 ⟨r37, rfl, H⟩
              show wm iv L h0 (d + 1) 129 103 [lr 307, li a1, li a2, li a3, li (s5.2 47 a2), li (s5.2 47 a3)] [vi r37] s36 (qi F)
              exact w_iret rfl rfl ⟨_, rfl, H⟩
        · replace H := H.2 h
          refine w_aload_n rfl rfl ?_
          refine w_iconst (n := 3) rfl rfl ?_
          refine w_iload_n rfl rfl ?_
          refine m_call (as := [vi 3, vi a1]) (r := []) rfl rfl rfl rfl rfl rfl (wc_mono H (Nat.le_refl _) ?_)
          rintro _ s38 ⟨r39, rfl, H⟩
          show wm iv L h0 (d + 1) 129 52 [lr 307, li a1, li a2, li a3] [vi r39] s38 (qi F)
          exact w_iret rfl rfl ⟨_, rfl, H⟩
    · replace H := H.2 h
      refine w_aload_n rfl rfl ?_
      refine w_bipush (n := 7) rfl rfl rfl ?_
      refine w_iload_n rfl rfl ?_
      refine w_iload_n rfl rfl ?_
      refine w_iload_n rfl rfl ?_
      refine w_bipush (n := (-9)) rfl rfl rfl ?_
      refine m_call (as := [vi 7, vi a1, vi a2, vi a3, vi (-9)]) (r := []) rfl rfl rfl rfl rfl rfl (wc_mono H (Nat.le_refl _) ?_)
      rintro _ s40 ⟨r41, rfl, H⟩
      show wm iv L h0 (d + 1) 129 27 [lr 307, li a1, li a2, li a3] [vi r41] s40 (qi F)
      exact w_iret rfl rfl ⟨_, rfl, H⟩

/-- HoleDeskModel.filling(I)I -/
theorem B130 {iv : List (Int × Int)} {L : Nat} {h0 : MH} {d : Nat} {s : SM} {a1 : Int} {F : Int → SM → Prop} (H : wm iv L h0 d 130 2 [lr 307, li a1, li a1] [] s (qi F)) : cm iv L h0 d 130 [vr 307, vi a1] s (qi F) := by
  show wm iv L h0 d 130 0 [lr 307, li a1] [] s (qi F)
  refine w_iload_n rfl rfl ?_
  refine w_istore_n rfl rfl ?_
  exact wp_ls (sl_s (sl_s (sl_s (sl_0)))) H

/-- HoleDeskModel.filling(I)I at 2 -/
theorem B130_2 {iv : List (Int × Int)} {L : Nat} {h0 : MH} {d : Nat} {s : SM} {l1 : Int} {l2 : Int} {F : Int → SM → Prop} (H : (0 ≤ l2 ∧ l2 < 3004) ∧ ((s.2 42 l2 ≤ 0 → ((l2 ≠ l1 → F l2 s) ∧ (l2 = l1 → F (-9) s))) ∧ (0 < s.2 42 l2 → (-2147483648 ≤ (s.2 42 l2) - 1 ∧ (s.2 42 l2) - 1 ≤ 2147483647) ∧ wm iv L h0 d 130 2 [lr 307, li l1, li ((s.2 42 l2) - 1)] [] s (qi F)))) : wm iv L h0 d 130 2 [lr 307, li l1, li l2] [] s (qi F) := by
  refine w_aload_n rfl rfl ?_
  refine m_geta (t := 0) (k := 3004) rfl rfl ?_
  refine w_iload_n rfl rfl ?_
  obtain ⟨g1, H⟩ := H
  refine m_ald rfl (f := 42) (k := 3004) rfl g1 ?_
  refine w_if_le rfl (fun h => ?_) (fun h => ?_)
  · replace H := H.1 h
    refine w_iload_n rfl rfl ?_
    refine w_iload_n rfl rfl ?_
    refine w_icmp_ne rfl (fun h => ?_) (fun h => ?_)
    · replace H := H.1 h
      refine w_iload_n rfl rfl ?_
      exact w_iret rfl rfl ⟨_, rfl, H⟩
    · replace H := H.2 h
      refine w_bipush (n := (-9)) rfl rfl rfl ?_
      refine w_goto rfl ?_
      exact w_iret rfl rfl ⟨_, rfl, H⟩
  · replace H := H.2 h
    refine w_aload_n rfl rfl ?_
    refine m_geta (t := 0) (k := 3004) rfl rfl ?_
    refine w_iload_n rfl rfl ?_
    refine m_ald rfl (f := 42) (k := 3004) rfl g1 ?_
    refine w_iconst (n := 1) rfl rfl ?_
    obtain ⟨g2, H⟩ := H
    refine w_isub rfl g2 ?_
    refine w_istore_n rfl rfl ?_
    refine w_goto rfl ?_
    exact wp_ls (sl_s (sl_s (sl_s (sl_0)))) H

/-- HoleDeskModel.envOn(I)I -/
theorem B131 {iv : List (Int × Int)} {L : Nat} {h0 : MH} {d : Nat} {s : SM} {a1 : Int} {F : Int → SM → Prop} (H : cm iv L h0 d 122 [vr 307, vi (-9)] s (qi fun r2 s1 => wm iv L h0 (d + 1) 131 9 [lr 307, li a1, li r2, li 0] [] s1 (qi F))) : cm iv L h0 (d + 1) 131 [vr 307, vi a1] s (qi F) := by
  show wm iv L h0 (d + 1) 131 0 [lr 307, li a1] [] s (qi F)
  refine w_aload_n rfl rfl ?_
  refine w_bipush (n := (-9)) rfl rfl rfl ?_
  refine m_call (as := [vi (-9)]) (r := []) rfl rfl rfl rfl rfl rfl (wc_mono H (Nat.le_refl _) ?_)
  rintro _ s1 ⟨r2, rfl, H⟩
  show wm iv L h0 (d + 1) 131 6 [lr 307, li a1] [vi r2] s1 (qi F)
  refine w_istore_n rfl rfl ?_
  refine w_iconst (n := 0) rfl rfl ?_
  refine w_istore_n rfl rfl ?_
  exact wp_ls (sl_s (sl_s (sl_s (sl_s (sl_0))))) H

/-- HoleDeskModel.envOn(I)I at 9 -/
theorem B131_9 {iv : List (Int × Int)} {L : Nat} {h0 : MH} {d : Nat} {s : SM} {l1 : Int} {l2 : Int} {l3 : Int} {F : Int → SM → Prop} (H : ((26 ≤ l3 → F l2 s) ∧ (l3 < 26 → ((s.1 59 ≠ 0 → F l2 s) ∧ (s.1 59 = 0 → (-2147483648 ≤ 26 * l2 ∧ 26 * l2 ≤ 2147483647) ∧ (-2147483648 ≤ (26 * l2) + l3 ∧ (26 * l2) + l3 ≤ 2147483647) ∧ (-2147483648 ≤ 26 * l1 ∧ 26 * l1 ≤ 2147483647) ∧ (-2147483648 ≤ (26 * l1) + l3 ∧ (26 * l1) + l3 ≤ 2147483647) ∧ (0 ≤ (26 * l1) + l3 ∧ (26 * l1) + l3 < 33280) ∧ ((s.2 53 ((26 * l1) + l3) ≠ (-9) → cm iv L h0 d 132 [vr 307, vi (s.2 53 ((26 * l1) + l3))] s (qi fun r7 s6 => (0 ≤ (26 * l2) + l3 ∧ (26 * l2) + l3 < 33280) ∧ (-2147483648 ≤ l3 + 1 ∧ l3 + 1 ≤ 2147483647) ∧ wm iv L h0 (d + 1) 131 9 [lr 307, li l1, li l2, li (l3 + 1)] [] (ua s6 53 ((26 * l2) + l3) r7) (qi F))) ∧ (s.2 53 ((26 * l1) + l3) = (-9) → (0 ≤ (26 * l2) + l3 ∧ (26 * l2) + l3 < 33280) ∧ (-2147483648 ≤ l3 + 1 ∧ l3 + 1 ≤ 2147483647) ∧ wm iv L h0 (d + 1) 131 9 [lr 307, li l1, li l2, li (l3 + 1)] [] (ua s 53 ((26 * l2) + l3) (-9)) (qi F)))))))) : wm iv L h0 (d + 1) 131 9 [lr 307, li l1, li l2, li l3] [] s (qi F) := by
  refine w_iload_n rfl rfl ?_
  refine w_bipush (n := 26) rfl rfl rfl ?_
  refine w_icmp_ge rfl (fun h => ?_) (fun h => ?_)
  · replace H := H.1 h
    refine w_iload_n rfl rfl ?_
    exact w_iret rfl rfl ⟨_, rfl, H⟩
  · replace H := H.2 h
    refine w_aload_n rfl rfl ?_
    refine m_get rfl rfl ?_
    refine w_if_ne rfl (fun h => ?_) (fun h => ?_)
    · replace H := H.1 h
      refine w_iload_n rfl rfl ?_
      exact w_iret rfl rfl ⟨_, rfl, H⟩
    · replace H := H.2 h
      refine w_aload_n rfl rfl ?_
      refine m_geta (t := 0) (k := 33280) rfl rfl ?_
      refine w_bipush (n := 26) rfl rfl rfl ?_
      refine w_iload_n rfl rfl ?_
      obtain ⟨g1, H⟩ := H
      refine w_imul rfl g1 ?_
      refine w_iload_n rfl rfl ?_
      obtain ⟨g2, H⟩ := H
      refine w_iadd rfl g2 ?_
      refine w_aload_n rfl rfl ?_
      refine m_geta (t := 0) (k := 33280) rfl rfl ?_
      refine w_bipush (n := 26) rfl rfl rfl ?_
      refine w_iload_n rfl rfl ?_
      obtain ⟨g3, H⟩ := H
      refine w_imul rfl g3 ?_
      refine w_iload_n rfl rfl ?_
      obtain ⟨g4, H⟩ := H
      refine w_iadd rfl g4 ?_
      obtain ⟨g5, H⟩ := H
      refine m_ald rfl (f := 53) (k := 33280) rfl g5 ?_
      refine w_bipush (n := (-9)) rfl rfl rfl ?_
      refine w_icmp_ne rfl (fun h => ?_) (fun h => ?_)
      · replace H := H.1 h
        refine w_aload_n rfl rfl ?_
        refine w_aload_n rfl rfl ?_
        refine m_geta (t := 0) (k := 33280) rfl rfl ?_
        refine w_bipush (n := 26) rfl rfl rfl ?_
        refine w_iload_n rfl rfl ?_
        refine w_imul rfl g3 ?_
        refine w_iload_n rfl rfl ?_
        refine w_iadd rfl g4 ?_
        refine m_ald rfl (f := 53) (k := 33280) rfl g5 ?_
        refine m_call (as := [vi (s.2 53 ((26 * l1) + l3))]) (r := [vi ((26 * l2) + l3), vr 346]) rfl rfl rfl rfl rfl rfl (wc_mono H (Nat.le_refl _) ?_)
        rintro _ s6 ⟨r7, rfl, H⟩
        show wm iv L h0 (d + 1) 131 68 [lr 307, li l1, li l2, li l3] [vi r7, vi ((26 * l2) + l3), vr 346] s6 (qi F)
        obtain ⟨g8, H⟩ := H
        refine m_ast rfl (f := 53) (k := 33280) rfl g8 ?_
        obtain ⟨g9, H⟩ := H
        refine w_iinc rfl rfl rfl g9 ?_
        refine w_goto rfl ?_
        exact wp_ls (sl_s (sl_s (sl_s (sl_s (sl_0))))) H
      · replace H := H.2 h
        refine w_bipush (n := (-9)) rfl rfl rfl ?_
        refine w_goto rfl ?_
        obtain ⟨g10, H⟩ := H
        refine m_ast rfl (f := 53) (k := 33280) rfl g10 ?_
        obtain ⟨g11, H⟩ := H
        refine w_iinc rfl rfl rfl g11 ?_
        refine w_goto rfl ?_
        exact wp_ls (sl_s (sl_s (sl_s (sl_s (sl_0))))) H

/-- HoleDeskModel.on(I)I -/
theorem B132 {iv : List (Int × Int)} {L : Nat} {h0 : MH} {d : Nat} {s : SM} {a1 : Int} {F : Int → SM → Prop} (H : cm iv L h0 d 123 [vr 307, vi (-9)] s (qi fun r2 s1 => ((r2 ≠ 0 → cm iv L h0 d 133 [vr 307, vi a1] s1 (qi fun r4 s3 => (-2147483648 ≤ (s3.1 58) - 1 ∧ (s3.1 58) - 1 ≤ 2147483647) ∧ ((s3.1 59 ≤ 0 → F r4 (us s3 58 ((s3.1 58) - 1))) ∧ (0 < s3.1 59 → F (-9) (us s3 58 ((s3.1 58) - 1)))))) ∧ (r2 = 0 → F (-9) s1)))) : cm iv L h0 (d + 1) 132 [vr 307, vi a1] s (qi F) := by
  show wm iv L h0 (d + 1) 132 0 [lr 307, li a1] [] s (qi F)
  refine w_aload_n rfl rfl ?_
  refine w_bipush (n := (-9)) rfl rfl rfl ?_
  refine m_call (as := [vi (-9)]) (r := []) rfl rfl rfl rfl rfl rfl (wc_mono H (Nat.le_refl _) ?_)
  rintro _ s1 ⟨r2, rfl, H⟩
  show wm iv L h0 (d + 1) 132 6 [lr 307, li a1] [vi r2] s1 (qi F)
  refine w_if_ne rfl (fun h => ?_) (fun h => ?_)
  · replace H := H.1 h
    refine w_aload_n rfl rfl ?_
    refine w_iload_n rfl rfl ?_
    refine m_call (as := [vi a1]) (r := []) rfl rfl rfl rfl rfl rfl (wc_mono H (Nat.le_refl _) ?_)
    rintro _ s3 ⟨r4, rfl, H⟩
    show wm iv L h0 (d + 1) 132 17 [lr 307, li a1] [vi r4] s3 (qi F)
    refine w_istore_n rfl rfl ?_
    refine w_aload_n rfl rfl ?_
    refine w_dup rfl rfl ?_
    refine m_get rfl rfl ?_
    refine w_iconst (n := 1) rfl rfl ?_
    obtain ⟨g5, H⟩ := H
    refine w_isub rfl g5 ?_
    refine m_put rfl rfl rfl ?_
    refine w_aload_n rfl rfl ?_
    refine m_get rfl rfl ?_
    show wm iv L h0 (d + 1) 132 32 [lr 307, li a1, li r4] [vi (s3.1 59)] (us s3 58 ((s3.1 58) - 1)) (qi F)
    refine w_if_le rfl (fun h => ?_) (fun h => ?_)
    · replace H := H.1 h
      refine w_iload_n rfl rfl ?_
      exact w_iret rfl rfl ⟨_, rfl, H⟩
    · replace H := H.2 h
      refine w_bipush (n := (-9)) rfl rfl rfl ?_
      refine w_goto rfl ?_
      exact w_iret rfl rfl ⟨_, rfl, H⟩
  · replace H := H.2 h
    refine w_bipush (n := (-9)) rfl rfl rfl ?_
    exact w_iret rfl rfl ⟨_, rfl, H⟩

/-- HoleDeskModel.onPlain(I)I -/
theorem B133 {iv : List (Int × Int)} {L : Nat} {h0 : MH} {d : Nat} {s : SM} {a1 : Int} {F : Int → SM → Prop} (H : (0 ≤ a1 ∧ a1 < 2600) ∧ ((s.2 46 a1 = 2 → cm iv L h0 d 131 [vr 307, vi (s.2 50 a1)] s (qi fun r3 s2 => cm iv L h0 d 121 [vr 307, vi 2, vi (s2.2 47 a1), vi (-9), vi (-9), vi r3] s2 (qi fun r5 s4 => F r5 s4))) ∧ (s.2 46 a1 = 3 → cm iv L h0 d 132 [vr 307, vi (s.2 48 a1)] s (qi fun r7 s6 => ((s6.1 59 ≤ 0 → cm iv L h0 d 132 [vr 307, vi (s6.2 49 a1)] s6 (qi fun r9 s8 => cm iv L h0 d 121 [vr 307, vi 3, vi (-9), vi r7, vi r9, vi (-9)] s8 (qi fun r11 s10 => F r11 s10))) ∧ (0 < s6.1 59 → cm iv L h0 d 121 [vr 307, vi 3, vi (-9), vi r7, vi (-9), vi (-9)] s6 (qi fun r13 s12 => F r13 s12))))) ∧ (s.2 46 a1 = 4 → cm iv L h0 d 131 [vr 307, vi (s.2 50 a1)] s (qi fun r15 s14 => cm iv L h0 d 130 [vr 307, vi (s14.2 47 a1)] s14 (qi fun r17 s16 => ((s16.1 59 ≤ 0 → ((r17 ≠ (-9) → cm iv L h0 d 126 [vr 307, vi r17, vi r15] s16 (qi fun r19 s18 => F r19 s18)) ∧ (r17 = (-9) → cm iv L h0 d 121 [vr 307, vi 4, vi (s16.2 47 a1), vi (-9), vi (-9), vi r15] s16 (qi fun r21 s20 => F r21 s20)))) ∧ (0 < s16.1 59 → F (-9) s16))))) ∧ (s.2 46 a1 = 5 ∨ s.2 46 a1 < 2 ∨ 7 < s.2 46 a1 → cm iv L h0 d 121 [vr 307, vi (s.2 46 a1), vi (s.2 47 a1), vi (-9), vi (-9), vi (-9)] s (qi fun r23 s22 => F r23 s22)) ∧ (s.2 46 a1 = 6 → cm iv L h0 d 132 [vr 307, vi (s.2 48 a1)] s (qi fun r25 s24 => cm iv L h0 d 121 [vr 307, vi 6, vi (-9), vi r25, vi (-9), vi (-9)] s24 (qi fun r27 s26 => F r27 s26))) ∧ (s.2 46 a1 = 7 → cm iv L h0 d 132 [vr 307, vi (s.2 48 a1)] s (qi fun r29 s28 => ((0 < s28.1 59 → ((0 < s28.1 59 → ((s28.1 59 ≤ 0 → cm iv L h0 d 128 [vr 307, vi (s28.2 47 a1), vi r29, vi (-9), vi (-9)] s28 (qi fun r31 s30 => F r31 s30)) ∧ (0 < s28.1 59 → F (-9) s28))) ∧ (s28.1 59 ≤ 0 → ((s28.2 50 a1 ≠ (-9) → cm iv L h0 d 131 [vr 307, vi (s28.2 50 a1)] s28 (qi fun r33 s32 => ((s32.1 59 ≤ 0 → cm iv L h0 d 128 [vr 307, vi (s32.2 47 a1), vi r29, vi (-9), vi r33] s32 (qi fun r35 s34 => F r35 s34)) ∧ (0 < s32.1 59 → F (-9) s32)))) ∧ (s28.2 50 a1 = (-9) → ((s28.1 59 ≤ 0 → cm iv L h0 d 128 [vr 307, vi (s28.2 47 a1), vi r29, vi (-9), vi (-9)] s28 (qi fun r37 s36 => F r37 s36)) ∧ (0 < s28.1 59 → F (-9) s28))))))) ∧ (s28.1 59 ≤ 0 → ((s28.2 49 a1 ≠ (-9) → cm iv L h0 d 132 [vr 307, vi (s28.2 49 a1)] s28 (qi fun r39 s38 => ((0 < s38.1 59 → ((s38.1 59 ≤ 0 → cm iv L h0 d 128 [vr 307, vi (s38.2 47 a1), vi r29, vi r39, vi (-9)] s38 (qi fun r41 s40 => F r41 s40)) ∧ (0 < s38.1 59 → F (-9) s38))) ∧ (s38.1 59 ≤ 0 → ((s38.2 50 a1 ≠ (-9) → cm iv L h0 d 131 [vr 307, vi (s38.2 50 a1)] s38 (qi fun r43 s42 => ((s42.1 59 ≤ 0 → cm iv L h0 d 128 [vr 307, vi (s42.2 47 a1), vi r29, vi r39, vi r43] s42 (qi fun r45 s44 => F r45 s44)) ∧ (0 < s42.1 59 → F (-9) s42)))) ∧ (s38.2 50 a1 = (-9) → ((s38.1 59 ≤ 0 → cm iv L h0 d 128 [vr 307, vi (s38.2 47 a1), vi r29, vi r39, vi (-9)] s38 (qi fun r47 s46 => F r47 s46)) ∧ (0 < s38.1 59 → F (-9) s38)))))))) ∧ (s28.2 49 a1 = (-9) → ((0 < s28.1 59 → ((s28.1 59 ≤ 0 → cm iv L h0 d 128 [vr 307, vi (s28.2 47 a1), vi r29, vi (-9), vi (-9)] s28 (qi fun r49 s48 => F r49 s48)) ∧ (0 < s28.1 59 → F (-9) s28))) ∧ (s28.1 59 ≤ 0 → ((s28.2 50 a1 ≠ (-9) → cm iv L h0 d 131 [vr 307, vi (s28.2 50 a1)] s28 (qi fun r51 s50 => ((s50.1 59 ≤ 0 → cm iv L h0 d 128 [vr 307, vi (s50.2 47 a1), vi r29, vi (-9), vi r51] s50 (qi fun r53 s52 => F r53 s52)) ∧ (0 < s50.1 59 → F (-9) s50)))) ∧ (s28.2 50 a1 = (-9) → ((s28.1 59 ≤ 0 → cm iv L h0 d 128 [vr 307, vi (s28.2 47 a1), vi r29, vi (-9), vi (-9)] s28 (qi fun r55 s54 => F r55 s54)) ∧ (0 < s28.1 59 → F (-9) s28)))))))))))))) : cm iv L h0 (d + 1) 133 [vr 307, vi a1] s (qi F) := by
  show wm iv L h0 (d + 1) 133 0 [lr 307, li a1] [] s (qi F)
  refine w_aload_n rfl rfl ?_
  refine m_geta (t := 0) (k := 2600) rfl rfl ?_
  refine w_iload_n rfl rfl ?_
  obtain ⟨g1, H⟩ := H
  refine m_ald rfl (f := 46) (k := 2600) rfl g1 ?_
  have J44 : (s.2 46 a1 = 2) → wm iv L h0 (d + 1) 133 44 [lr 307, li a1] [] s (qi F) := fun h => by
    replace H := H.1 h
    refine w_aload_n rfl rfl ?_
    refine w_aload_n rfl rfl ?_
    refine m_geta (t := 0) (k := 2600) rfl rfl ?_
    refine w_iload_n rfl rfl ?_
    refine m_ald rfl (f := 50) (k := 2600) rfl g1 ?_
    refine m_call (as := [vi (s.2 50 a1)]) (r := []) rfl rfl rfl rfl rfl rfl (wc_mono H (Nat.le_refl _) ?_)
    rintro _ s2 ⟨r3, rfl, H⟩
    show wm iv L h0 (d + 1) 133 54 [lr 307, li a1] [vi r3] s2 (qi F)
    refine w_istore_n rfl rfl ?_
    refine w_aload_n rfl rfl ?_
    refine w_iconst (n := 2) rfl rfl ?_
    refine w_aload_n rfl rfl ?_
    refine m_geta (t := 0) (k := 2600) rfl rfl ?_
    refine w_iload_n rfl rfl ?_
    refine m_ald rfl (f := 47) (k := 2600) rfl g1 ?_
    refine w_bipush (n := (-9)) rfl rfl rfl ?_
    refine w_bipush (n := (-9)) rfl rfl rfl ?_
    refine w_iload_n rfl rfl ?_
    refine m_call (as := [vi 2, vi (s2.2 47 a1), vi (-9), vi (-9), vi r3]) (r := []) rfl rfl rfl rfl rfl rfl (wc_mono H (Nat.le_refl _) ?_)
    rintro _ s4 ⟨r5, rfl, H⟩
    show wm iv L h0 (d + 1) 133 71 [lr 307, li a1, li r3] [vi r5] s4 (qi F)
    exact w_iret rfl rfl ⟨_, rfl, H⟩
  have J72 : (s.2 46 a1 = 3) → wm iv L h0 (d + 1) 133 72 [lr 307, li a1] [] s (qi F) := fun h => by
    replace H := H.2.1 h
    refine w_aload_n rfl rfl ?_
    refine w_aload_n rfl rfl ?_
    refine m_geta (t := 0) (k := 2600) rfl rfl ?_
    refine w_iload_n rfl rfl ?_
    refine m_ald rfl (f := 48) (k := 2600) rfl g1 ?_
    refine m_call (as := [vi (s.2 48 a1)]) (r := []) rfl rfl rfl rfl rfl rfl (wc_mono H (Nat.le_refl _) ?_)
    rintro _ s6 ⟨r7, rfl, H⟩
    show wm iv L h0 (d + 1) 133 82 [lr 307, li a1] [vi r7] s6 (qi F)
    refine w_istore_n rfl rfl ?_
    refine w_aload_n rfl rfl ?_
    refine m_get rfl rfl ?_
    refine w_if_le rfl (fun h => ?_) (fun h => ?_)
    · replace H := H.1 h
      refine w_aload_n rfl rfl ?_
      refine w_aload_n rfl rfl ?_
      refine m_geta (t := 0) (k := 2600) rfl rfl ?_
      refine w_iload_n rfl rfl ?_
      refine m_ald rfl (f := 49) (k := 2600) rfl g1 ?_
      refine m_call (as := [vi (s6.2 49 a1)]) (r := []) rfl rfl rfl rfl rfl rfl (wc_mono H (Nat.le_refl _) ?_)
      rintro _ s8 ⟨r9, rfl, H⟩
      show wm iv L h0 (d + 1) 133 105 [lr 307, li a1, li r7] [vi r9] s8 (qi F)
      refine w_istore_n rfl rfl ?_
      refine w_aload_n rfl rfl ?_
      refine w_iconst (n := 3) rfl rfl ?_
      refine w_bipush (n := (-9)) rfl rfl rfl ?_
      refine w_iload_n rfl rfl ?_
      refine w_iload_n rfl rfl ?_
      refine w_bipush (n := (-9)) rfl rfl rfl ?_
      refine m_call (as := [vi 3, vi (-9), vi r7, vi r9, vi (-9)]) (r := []) rfl rfl rfl rfl rfl rfl (wc_mono H (Nat.le_refl _) ?_)
      rintro _ s10 ⟨r11, rfl, H⟩
      show wm iv L h0 (d + 1) 133 117 [lr 307, li a1, li r7, li r9] [vi r11] s10 (qi F)
      exact w_iret rfl rfl ⟨_, rfl, H⟩
    · replace H := H.2 h
      refine w_bipush (n := (-9)) rfl rfl rfl ?_
      refine w_goto rfl ?_
      refine w_istore_n rfl rfl ?_
      refine w_aload_n rfl rfl ?_
      refine w_iconst (n := 3) rfl rfl ?_
      refine w_bipush (n := (-9)) rfl rfl rfl ?_
      refine w_iload_n rfl rfl ?_
      refine w_iload_n rfl rfl ?_
      refine w_bipush (n := (-9)) rfl rfl rfl ?_
      refine m_call (as := [vi 3, vi (-9), vi r7, vi (-9), vi (-9)]) (r := []) rfl rfl rfl rfl rfl rfl (wc_mono H (Nat.le_refl _) ?_)
      rintro _ s12 ⟨r13, rfl, H⟩
      show wm iv L h0 (d + 1) 133 117 [lr 307, li a1, li r7, li (-9)] [vi r13] s12 (qi F)
      exact w_iret rfl rfl ⟨_, rfl, H⟩
  have J118 : (s.2 46 a1 = 4) → wm iv L h0 (d + 1) 133 118 [lr 307, li a1] [] s (qi F) := fun h => by
    replace H := H.2.2.1 h
    refine w_aload_n rfl rfl ?_
    refine w_aload_n rfl rfl ?_
    refine m_geta (t := 0) (k := 2600) rfl rfl ?_
    refine w_iload_n rfl rfl ?_
    refine m_ald rfl (f := 50) (k := 2600) rfl g1 ?_
    refine m_call (as := [vi (s.2 50 a1)]) (r := []) rfl rfl rfl rfl rfl rfl (wc_mono H (Nat.le_refl _) ?_)
    rintro _ s14 ⟨r15, rfl, H⟩
    show wm iv L h0 (d + 1) 133 128 [lr 307, li a1] [vi r15] s14 (qi F)
    refine w_istore_n rfl rfl ?_
    refine w_aload_n rfl rfl ?_
    refine w_aload_n rfl rfl ?_
    refine m_geta (t := 0) (k := 2600) rfl rfl ?_
    refine w_iload_n rfl rfl ?_
    refine m_ald rfl (f := 47) (k := 2600) rfl g1 ?_
    refine m_call (as := [vi (s14.2 47 a1)]) (r := []) rfl rfl rfl rfl rfl rfl (wc_mono H (Nat.le_refl _) ?_)
    rintro _ s16 ⟨r17, rfl, H⟩
    show wm iv L h0 (d + 1) 133 139 [lr 307, li a1, li r15] [vi r17] s16 (qi F)
    refine w_istore_n rfl rfl ?_
    refine w_aload_n rfl rfl ?_
    refine m_get rfl rfl ?_
    refine w_if_le rfl (fun h => ?_) (fun h => ?_)
    · replace H := H.1 h
      refine w_iload_n rfl rfl ?_
      refine w_bipush (n := (-9)) rfl rfl rfl ?_
      refine w_icmp_ne rfl (fun h => ?_) (fun h => ?_)
      · replace H := H.1 h
        refine w_aload_n rfl rfl ?_
        refine w_iload_n rfl rfl ?_
        refine w_iload_n rfl rfl ?_
        refine m_call (as := [vi r17, vi r15]) (r := []) rfl rfl rfl rfl rfl rfl (wc_mono H (Nat.le_refl _) ?_)
        rintro _ s18 ⟨r19, rfl, H⟩
        show wm iv L h0 (d + 1) 133 183 [lr 307, li a1, li r15, li r17] [vi r19] s18 (qi F)
        exact w_iret rfl rfl ⟨_, rfl, H⟩
      · replace H := H.2 h
        refine w_aload_n rfl rfl ?_
        refine w_iconst (n := 4) rfl rfl ?_
        refine w_aload_n rfl rfl ?_
        refine m_geta (t := 0) (k := 2600) rfl rfl ?_
        refine w_iload_n rfl rfl ?_
        refine m_ald rfl (f := 47) (k := 2600) rfl g1 ?_
        refine w_bipush (n := (-9)) rfl rfl rfl ?_
        refine w_bipush (n := (-9)) rfl rfl rfl ?_
        refine w_iload_n rfl rfl ?_
        refine m_call (as := [vi 4, vi (s16.2 47 a1), vi (-9), vi (-9), vi r15]) (r := []) rfl rfl rfl rfl rfl rfl (wc_mono H (Nat.le_refl _) ?_)
        rintro _ s20 ⟨r21, rfl, H⟩
        show wm iv L h0 (d + 1) 133 174 [lr 307, li a1, li r15, li r17] [vi r21] s20 (qi F)
        refine w_goto rfl ?_
        exact w_iret rfl rfl ⟨_, rfl, H⟩
    · replace H := H.2 h
      refine w_bipush (n := (-9)) rfl rfl rfl ?_
      refine w_goto rfl ?_
      exact w_iret rfl rfl ⟨_, rfl, H⟩
  have J316 : (s.2 46 a1 = 5 ∨ s.2 46 a1 < 2 ∨ 7 < s.2 46 a1) → wm iv L h0 (d + 1) 133 316 [lr 307, li a1] [] s (qi F) := fun h => by
    replace H := H.2.2.2.1 h
    refine w_aload_n rfl rfl ?_
    refine w_aload_n rfl rfl ?_
    refine m_geta (t := 0) (k := 2600) rfl rfl ?_
    refine w_iload_n rfl rfl ?_
    refine m_ald rfl (f := 46) (k := 2600) rfl g1 ?_
    refine w_aload_n rfl rfl ?_
    refine m_geta (t := 0) (k := 2600) rfl rfl ?_
    refine w_iload_n rfl rfl ?_
    refine m_ald rfl (f := 47) (k := 2600) rfl g1 ?_
    refine w_bipush (n := (-9)) rfl rfl rfl ?_
    refine w_bipush (n := (-9)) rfl rfl rfl ?_
    refine w_bipush (n := (-9)) rfl rfl rfl ?_
    refine m_call (as := [vi (s.2 46 a1), vi (s.2 47 a1), vi (-9), vi (-9), vi (-9)]) (r := []) rfl rfl rfl rfl rfl rfl (wc_mono H (Nat.le_refl _) ?_)
    rintro _ s22 ⟨r23, rfl, H⟩
    show wm iv L h0 (d + 1) 133 338 [lr 307, li a1] [vi r23] s22 (qi F)
    exact w_iret rfl rfl ⟨_, rfl, H⟩
  have J184 : (s.2 46 a1 = 6) → wm iv L h0 (d + 1) 133 184 [lr 307, li a1] [] s (qi F) := fun h => by
    replace H := H.2.2.2.2.1 h
    refine w_aload_n rfl rfl ?_
    refine w_aload_n rfl rfl ?_
    refine m_geta (t := 0) (k := 2600) rfl rfl ?_
    refine w_iload_n rfl rfl ?_
    refine m_ald rfl (f := 48) (k := 2600) rfl g1 ?_
    refine m_call (as := [vi (s.2 48 a1)]) (r := []) rfl rfl rfl rfl rfl rfl (wc_mono H (Nat.le_refl _) ?_)
    rintro _ s24 ⟨r25, rfl, H⟩
    show wm iv L h0 (d + 1) 133 194 [lr 307, li a1] [vi r25] s24 (qi F)
    refine w_istore_n rfl rfl ?_
    refine w_aload_n rfl rfl ?_
    refine w_bipush (n := 6) rfl rfl rfl ?_
    refine w_bipush (n := (-9)) rfl rfl rfl ?_
    refine w_iload_n rfl rfl ?_
    refine w_bipush (n := (-9)) rfl rfl rfl ?_
    refine w_bipush (n := (-9)) rfl rfl rfl ?_
    refine m_call (as := [vi 6, vi (-9), vi r25, vi (-9), vi (-9)]) (r := []) rfl rfl rfl rfl rfl rfl (wc_mono H (Nat.le_refl _) ?_)
    rintro _ s26 ⟨r27, rfl, H⟩
    show wm iv L h0 (d + 1) 133 208 [lr 307, li a1, li r25] [vi r27] s26 (qi F)
    exact w_iret rfl rfl ⟨_, rfl, H⟩
  have J209 : (s.2 46 a1 = 7) → wm iv L h0 (d + 1) 133 209 [lr 307, li a1] [] s (qi F) := fun h => by
    replace H := H.2.2.2.2.2 h
    refine w_aload_n rfl rfl ?_
    refine w_aload_n rfl rfl ?_
    refine m_geta (t := 0) (k := 2600) rfl rfl ?_
    refine w_iload_n rfl rfl ?_
    refine m_ald rfl (f := 48) (k := 2600) rfl g1 ?_
    refine m_call (as := [vi (s.2 48 a1)]) (r := []) rfl rfl rfl rfl rfl rfl (wc_mono H (Nat.le_refl _) ?_)
    rintro _ s28 ⟨r29, rfl, H⟩
    show wm iv L h0 (d + 1) 133 219 [lr 307, li a1] [vi r29] s28 (qi F)
    refine w_istore_n rfl rfl ?_
    refine w_aload_n rfl rfl ?_
    refine m_get rfl rfl ?_
    refine w_if_gt rfl (fun h => ?_) (fun h => ?_)
    · replace H := H.1 h
      refine w_bipush (n := (-9)) rfl rfl rfl ?_
      refine w_goto rfl ?_
      refine w_istore_n rfl rfl ?_
      refine w_aload_n rfl rfl ?_
      refine m_get rfl rfl ?_
      refine w_if_gt rfl (fun h => ?_) (fun h => ?_)
      · replace H := H.1 h
        refine w_bipush (n := (-9)) rfl rfl rfl ?_
        refine w_goto rfl ?_
        refine w_istore rfl rfl ?_
        refine w_aload_n rfl rfl ?_
        refine m_get rfl rfl ?_
        refine w_if_le rfl (fun h => ?_) (fun h => ?_)
        · replace H := H.1 h
          refine w_aload_n rfl rfl ?_
          refine w_aload_n rfl rfl ?_
          refine m_geta (t := 0) (k := 2600) rfl rfl ?_
          refine w_iload_n rfl rfl ?_
          refine m_ald rfl (f := 47) (k := 2600) rfl g1 ?_
          refine w_iload_n rfl rfl ?_
          refine w_iload_n rfl rfl ?_
          refine w_iload rfl rfl ?_
          refine m_call (as := [vi (s28.2 47 a1), vi r29, vi (-9), vi (-9)]) (r := []) rfl rfl rfl rfl rfl rfl (wc_mono H (Nat.le_refl _) ?_)
          rintro _ s30 ⟨r31, rfl, H⟩
          show wm iv L h0 (d + 1) 133 315 [lr 307, li a1, li r29, li (-9), li (-9)] [vi r31] s30 (qi F)
          exact w_iret rfl rfl ⟨_, rfl, H⟩
        · replace H := H.2 h
          refine w_bipush (n := (-9)) rfl rfl rfl ?_
          refine w_goto rfl ?_
          exact w_iret rfl rfl ⟨_, rfl, H⟩
      · replace H := H.2 h
        refine w_aload_n rfl rfl ?_
        refine m_geta (t := 0) (k := 2600) rfl rfl ?_
        refine w_iload_n rfl rfl ?_
        refine m_ald rfl (f := 50) (k := 2600) rfl g1 ?_
        refine w_bipush (n := (-9)) rfl rfl rfl ?_
        refine w_icmp_ne rfl (fun h => ?_) (fun h => ?_)
        · replace H := H.1 h
          refine w_aload_n rfl rfl ?_
          refine w_aload_n rfl rfl ?_
          refine m_geta (t := 0) (k := 2600) rfl rfl ?_
          refine w_iload_n rfl rfl ?_
          refine m_ald rfl (f := 50) (k := 2600) rfl g1 ?_
          refine m_call (as := [vi (s28.2 50 a1)]) (r := []) rfl rfl rfl rfl rfl rfl (wc_mono H (Nat.le_refl _) ?_)
          rintro _ s32 ⟨r33, rfl, H⟩
          show wm iv L h0 (d + 1) 133 287 [lr 307, li a1, li r29, li (-9)] [vi r33] s32 (qi F)
          refine w_istore rfl rfl ?_
          refine w_aload_n rfl rfl ?_
          refine m_get rfl rfl ?_
          refine w_if_le rfl (fun h => ?_) (fun h => ?_)
          · replace H := H.1 h
            refine w_aload_n rfl rfl ?_
            refine w_aload_n rfl rfl ?_
            refine m_geta (t := 0) (k := 2600) rfl rfl ?_
            refine w_iload_n rfl rfl ?_
            refine m_ald rfl (f := 47) (k := 2600) rfl g1 ?_
            refine w_iload_n rfl rfl ?_
            refine w_iload_n rfl rfl ?_
            refine w_iload rfl rfl ?_
            refine m_call (as := [vi (s32.2 47 a1), vi r29, vi (-9), vi r33]) (r := []) rfl rfl rfl rfl rfl rfl (wc_mono H (Nat.le_refl _) ?_)
            rintro _ s34 ⟨r35, rfl, H⟩
            show wm iv L h0 (d + 1) 133 315 [lr 307, li a1, li r29, li (-9), li r33] [vi r35] s34 (qi F)
            exact w_iret rfl rfl ⟨_, rfl, H⟩
          · replace H := H.2 h
            refine w_bipush (n := (-9)) rfl rfl rfl ?_
            refine w_goto rfl ?_
            exact w_iret rfl rfl ⟨_, rfl, H⟩
        · replace H := H.2 h
          refine w_bipush (n := (-9)) rfl rfl rfl ?_
          refine w_goto rfl ?_
          refine w_istore rfl rfl ?_
          refine w_aload_n rfl rfl ?_
          refine m_get rfl rfl ?_
          refine w_if_le rfl (fun h => ?_) (fun h => ?_)
          · replace H := H.1 h
            refine w_aload_n rfl rfl ?_
            refine w_aload_n rfl rfl ?_
            refine m_geta (t := 0) (k := 2600) rfl rfl ?_
            refine w_iload_n rfl rfl ?_
            refine m_ald rfl (f := 47) (k := 2600) rfl g1 ?_
            refine w_iload_n rfl rfl ?_
            refine w_iload_n rfl rfl ?_
            refine w_iload rfl rfl ?_
            refine m_call (as := [vi (s28.2 47 a1), vi r29, vi (-9), vi (-9)]) (r := []) rfl rfl rfl rfl rfl rfl (wc_mono H (Nat.le_refl _) ?_)
            rintro _ s36 ⟨r37, rfl, H⟩
            show wm iv L h0 (d + 1) 133 315 [lr 307, li a1, li r29, li (-9), li (-9)] [vi r37] s36 (qi F)
            exact w_iret rfl rfl ⟨_, rfl, H⟩
          · replace H := H.2 h
            refine w_bipush (n := (-9)) rfl rfl rfl ?_
            refine w_goto rfl ?_
            exact w_iret rfl rfl ⟨_, rfl, H⟩
    · replace H := H.2 h
      refine w_aload_n rfl rfl ?_
      refine m_geta (t := 0) (k := 2600) rfl rfl ?_
      refine w_iload_n rfl rfl ?_
      refine m_ald rfl (f := 49) (k := 2600) rfl g1 ?_
      refine w_bipush (n := (-9)) rfl rfl rfl ?_
      refine w_icmp_ne rfl (fun h => ?_) (fun h => ?_)
      · replace H := H.1 h
        refine w_aload_n rfl rfl ?_
        refine w_aload_n rfl rfl ?_
        refine m_geta (t := 0) (k := 2600) rfl rfl ?_
        refine w_iload_n rfl rfl ?_
        refine m_ald rfl (f := 49) (k := 2600) rfl g1 ?_
        refine m_call (as := [vi (s28.2 49 a1)]) (r := []) rfl rfl rfl rfl rfl rfl (wc_mono H (Nat.le_refl _) ?_)
        rintro _ s38 ⟨r39, rfl, H⟩
        show wm iv L h0 (d + 1) 133 253 [lr 307, li a1, li r29] [vi r39] s38 (qi F)
        refine w_istore_n rfl rfl ?_
        refine w_aload_n rfl rfl ?_
        refine m_get rfl rfl ?_
        refine w_if_gt rfl (fun h => ?_) (fun h => ?_)
        · replace H := H.1 h
          refine w_bipush (n := (-9)) rfl rfl rfl ?_
          refine w_goto rfl ?_
          refine w_istore rfl rfl ?_
          refine w_aload_n rfl rfl ?_
          refine m_get rfl rfl ?_
          refine w_if_le rfl (fun h => ?_) (fun h => ?_)
          · replace H := H.1 h
            refine w_aload_n rfl rfl ?_
            refine w_aload_n rfl rfl ?_
            refine m_geta (t := 0) (k := 2600) rfl rfl ?_
            refine w_iload_n rfl rfl ?_
            refine m_ald rfl (f := 47) (k := 2600) rfl g1 ?_
            refine w_iload_n rfl rfl ?_
            refine w_iload_n rfl rfl ?_
            refine w_iload rfl rfl ?_
            refine m_call (as := [vi (s38.2 47 a1), vi r29, vi r39, vi (-9)]) (r := []) rfl rfl rfl rfl rfl rfl (wc_mono H (Nat.le_refl _) ?_)
            rintro _ s40 ⟨r41, rfl, H⟩
            show wm iv L h0 (d + 1) 133 315 [lr 307, li a1, li r29, li r39, li (-9)] [vi r41] s40 (qi F)
            exact w_iret rfl rfl ⟨_, rfl, H⟩
          · replace H := H.2 h
            refine w_bipush (n := (-9)) rfl rfl rfl ?_
            refine w_goto rfl ?_
            exact w_iret rfl rfl ⟨_, rfl, H⟩
        · replace H := H.2 h
          refine w_aload_n rfl rfl ?_
          refine m_geta (t := 0) (k := 2600) rfl rfl ?_
          refine w_iload_n rfl rfl ?_
          refine m_ald rfl (f := 50) (k := 2600) rfl g1 ?_
          refine w_bipush (n := (-9)) rfl rfl rfl ?_
          refine w_icmp_ne rfl (fun h => ?_) (fun h => ?_)
          · replace H := H.1 h
            refine w_aload_n rfl rfl ?_
            refine w_aload_n rfl rfl ?_
            refine m_geta (t := 0) (k := 2600) rfl rfl ?_
            refine w_iload_n rfl rfl ?_
            refine m_ald rfl (f := 50) (k := 2600) rfl g1 ?_
            refine m_call (as := [vi (s38.2 50 a1)]) (r := []) rfl rfl rfl rfl rfl rfl (wc_mono H (Nat.le_refl _) ?_)
            rintro _ s42 ⟨r43, rfl, H⟩
            show wm iv L h0 (d + 1) 133 287 [lr 307, li a1, li r29, li r39] [vi r43] s42 (qi F)
            refine w_istore rfl rfl ?_
            refine w_aload_n rfl rfl ?_
            refine m_get rfl rfl ?_
            refine w_if_le rfl (fun h => ?_) (fun h => ?_)
            · replace H := H.1 h
              refine w_aload_n rfl rfl ?_
              refine w_aload_n rfl rfl ?_
              refine m_geta (t := 0) (k := 2600) rfl rfl ?_
              refine w_iload_n rfl rfl ?_
              refine m_ald rfl (f := 47) (k := 2600) rfl g1 ?_
              refine w_iload_n rfl rfl ?_
              refine w_iload_n rfl rfl ?_
              refine w_iload rfl rfl ?_
              refine m_call (as := [vi (s42.2 47 a1), vi r29, vi r39, vi r43]) (r := []) rfl rfl rfl rfl rfl rfl (wc_mono H (Nat.le_refl _) ?_)
              rintro _ s44 ⟨r45, rfl, H⟩
              show wm iv L h0 (d + 1) 133 315 [lr 307, li a1, li r29, li r39, li r43] [vi r45] s44 (qi F)
              exact w_iret rfl rfl ⟨_, rfl, H⟩
            · replace H := H.2 h
              refine w_bipush (n := (-9)) rfl rfl rfl ?_
              refine w_goto rfl ?_
              exact w_iret rfl rfl ⟨_, rfl, H⟩
          · replace H := H.2 h
            refine w_bipush (n := (-9)) rfl rfl rfl ?_
            refine w_goto rfl ?_
            refine w_istore rfl rfl ?_
            refine w_aload_n rfl rfl ?_
            refine m_get rfl rfl ?_
            refine w_if_le rfl (fun h => ?_) (fun h => ?_)
            · replace H := H.1 h
              refine w_aload_n rfl rfl ?_
              refine w_aload_n rfl rfl ?_
              refine m_geta (t := 0) (k := 2600) rfl rfl ?_
              refine w_iload_n rfl rfl ?_
              refine m_ald rfl (f := 47) (k := 2600) rfl g1 ?_
              refine w_iload_n rfl rfl ?_
              refine w_iload_n rfl rfl ?_
              refine w_iload rfl rfl ?_
              refine m_call (as := [vi (s38.2 47 a1), vi r29, vi r39, vi (-9)]) (r := []) rfl rfl rfl rfl rfl rfl (wc_mono H (Nat.le_refl _) ?_)
              rintro _ s46 ⟨r47, rfl, H⟩
              show wm iv L h0 (d + 1) 133 315 [lr 307, li a1, li r29, li r39, li (-9)] [vi r47] s46 (qi F)
              exact w_iret rfl rfl ⟨_, rfl, H⟩
            · replace H := H.2 h
              refine w_bipush (n := (-9)) rfl rfl rfl ?_
              refine w_goto rfl ?_
              exact w_iret rfl rfl ⟨_, rfl, H⟩
      · replace H := H.2 h
        refine w_bipush (n := (-9)) rfl rfl rfl ?_
        refine w_goto rfl ?_
        refine w_istore_n rfl rfl ?_
        refine w_aload_n rfl rfl ?_
        refine m_get rfl rfl ?_
        refine w_if_gt rfl (fun h => ?_) (fun h => ?_)
        · replace H := H.1 h
          refine w_bipush (n := (-9)) rfl rfl rfl ?_
          refine w_goto rfl ?_
          refine w_istore rfl rfl ?_
          refine w_aload_n rfl rfl ?_
          refine m_get rfl rfl ?_
          refine w_if_le rfl (fun h => ?_) (fun h => ?_)
          · replace H := H.1 h
            refine w_aload_n rfl rfl ?_
            refine w_aload_n rfl rfl ?_
            refine m_geta (t := 0) (k := 2600) rfl rfl ?_
            refine w_iload_n rfl rfl ?_
            refine m_ald rfl (f := 47) (k := 2600) rfl g1 ?_
            refine w_iload_n rfl rfl ?_
            refine w_iload_n rfl rfl ?_
            refine w_iload rfl rfl ?_
            refine m_call (as := [vi (s28.2 47 a1), vi r29, vi (-9), vi (-9)]) (r := []) rfl rfl rfl rfl rfl rfl (wc_mono H (Nat.le_refl _) ?_)
            rintro _ s48 ⟨r49, rfl, H⟩
            show wm iv L h0 (d + 1) 133 315 [lr 307, li a1, li r29, li (-9), li (-9)] [vi r49] s48 (qi F)
            exact w_iret rfl rfl ⟨_, rfl, H⟩
          · replace H := H.2 h
            refine w_bipush (n := (-9)) rfl rfl rfl ?_
            refine w_goto rfl ?_
            exact w_iret rfl rfl ⟨_, rfl, H⟩
        · replace H := H.2 h
          refine w_aload_n rfl rfl ?_
          refine m_geta (t := 0) (k := 2600) rfl rfl ?_
          refine w_iload_n rfl rfl ?_
          refine m_ald rfl (f := 50) (k := 2600) rfl g1 ?_
          refine w_bipush (n := (-9)) rfl rfl rfl ?_
          refine w_icmp_ne rfl (fun h => ?_) (fun h => ?_)
          · replace H := H.1 h
            refine w_aload_n rfl rfl ?_
            refine w_aload_n rfl rfl ?_
            refine m_geta (t := 0) (k := 2600) rfl rfl ?_
            refine w_iload_n rfl rfl ?_
            refine m_ald rfl (f := 50) (k := 2600) rfl g1 ?_
            refine m_call (as := [vi (s28.2 50 a1)]) (r := []) rfl rfl rfl rfl rfl rfl (wc_mono H (Nat.le_refl _) ?_)
            rintro _ s50 ⟨r51, rfl, H⟩
            show wm iv L h0 (d + 1) 133 287 [lr 307, li a1, li r29, li (-9)] [vi r51] s50 (qi F)
            refine w_istore rfl rfl ?_
            refine w_aload_n rfl rfl ?_
            refine m_get rfl rfl ?_
            refine w_if_le rfl (fun h => ?_) (fun h => ?_)
            · replace H := H.1 h
              refine w_aload_n rfl rfl ?_
              refine w_aload_n rfl rfl ?_
              refine m_geta (t := 0) (k := 2600) rfl rfl ?_
              refine w_iload_n rfl rfl ?_
              refine m_ald rfl (f := 47) (k := 2600) rfl g1 ?_
              refine w_iload_n rfl rfl ?_
              refine w_iload_n rfl rfl ?_
              refine w_iload rfl rfl ?_
              refine m_call (as := [vi (s50.2 47 a1), vi r29, vi (-9), vi r51]) (r := []) rfl rfl rfl rfl rfl rfl (wc_mono H (Nat.le_refl _) ?_)
              rintro _ s52 ⟨r53, rfl, H⟩
              show wm iv L h0 (d + 1) 133 315 [lr 307, li a1, li r29, li (-9), li r51] [vi r53] s52 (qi F)
              exact w_iret rfl rfl ⟨_, rfl, H⟩
            · replace H := H.2 h
              refine w_bipush (n := (-9)) rfl rfl rfl ?_
              refine w_goto rfl ?_
              exact w_iret rfl rfl ⟨_, rfl, H⟩
          · replace H := H.2 h
            refine w_bipush (n := (-9)) rfl rfl rfl ?_
            refine w_goto rfl ?_
            refine w_istore rfl rfl ?_
            refine w_aload_n rfl rfl ?_
            refine m_get rfl rfl ?_
            refine w_if_le rfl (fun h => ?_) (fun h => ?_)
            · replace H := H.1 h
              refine w_aload_n rfl rfl ?_
              refine w_aload_n rfl rfl ?_
              refine m_geta (t := 0) (k := 2600) rfl rfl ?_
              refine w_iload_n rfl rfl ?_
              refine m_ald rfl (f := 47) (k := 2600) rfl g1 ?_
              refine w_iload_n rfl rfl ?_
              refine w_iload_n rfl rfl ?_
              refine w_iload rfl rfl ?_
              refine m_call (as := [vi (s28.2 47 a1), vi r29, vi (-9), vi (-9)]) (r := []) rfl rfl rfl rfl rfl rfl (wc_mono H (Nat.le_refl _) ?_)
              rintro _ s54 ⟨r55, rfl, H⟩
              show wm iv L h0 (d + 1) 133 315 [lr 307, li a1, li r29, li (-9), li (-9)] [vi r55] s54 (qi F)
              exact w_iret rfl rfl ⟨_, rfl, H⟩
            · replace H := H.2 h
              refine w_bipush (n := (-9)) rfl rfl rfl ?_
              refine w_goto rfl ?_
              exact w_iret rfl rfl ⟨_, rfl, H⟩
  refine w_tsw (td := 316) (ts := [44, 72, 118, 316, 184, 209]) rfl rfl rfl rfl rfl rfl (fun h => J316 (by omega)) ?_
  exact swA_c (fun h => J44 (by omega)) (swA_c (fun h => J72 (by omega)) (swA_c (fun h => J118 (by omega)) (swA_c (fun h => J316 (by omega)) (swA_c (fun h => J184 (by omega)) (swA_c (fun h => J209 (by omega)) (swA_n))))))

/-- HoleDeskModel.beginWork(II)V -/
theorem B134 {iv : List (Int × Int)} {L : Nat} {h0 : MH} {d : Nat} {s : SM} {a1 : Int} {a2 : Int} {F : SM → Prop} (H : (-2147483648 ≤ 1300 * a2 ∧ 1300 * a2 ≤ 2147483647) ∧ (-2147483648 ≤ 640 * a2 ∧ 640 * a2 ≤ 2147483647) ∧ cm iv L h0 d 86 [vr 307] (us (us (us (us (us (us (us (us s 55 a2) 52 (1300 * a2)) 54 (640 * a2)) 56 0) 57 a1) 58 0) 59 0) 60 (-9)) (qv fun s3 => cm iv L h0 d 79 [vr 307] s3 (qv fun s4 => wm iv L h0 (d + 1) 134 73 [lr 307, ln, ln, li 0] [] (us s4 63 (s4.1 18)) (qv F)))) : cm iv L h0 (d + 1) 134 [vr 307, vi a1, vi a2] s (qv F) := by
  show wm iv L h0 (d + 1) 134 0 [lr 307, li a1, li a2] [] s (qv F)
  refine w_aload_n rfl rfl ?_
  refine w_iload_n rfl rfl ?_
  refine m_put rfl rfl rfl ?_
  refine w_aload_n rfl rfl ?_
  refine w_sipush (n := 1300) rfl rfl rfl ?_
  refine w_aload_n rfl rfl ?_
  refine m_get rfl rfl ?_
  show wm iv L h0 (d + 1) 134 13 [lr 307, li a1, li a2] [vi a2, vi 1300, vr 307] (us s 55 a2) (qv F)
  obtain ⟨g1, H⟩ := H
  refine w_imul rfl g1 ?_
  refine m_put rfl rfl rfl ?_
  refine w_aload_n rfl rfl ?_
  refine w_sipush (n := 640) rfl rfl rfl ?_
  refine w_aload_n rfl rfl ?_
  refine m_get rfl rfl ?_
  show wm iv L h0 (d + 1) 134 25 [lr 307, li a1, li a2] [vi a2, vi 640, vr 307] (us (us s 55 a2) 52 (1300 * a2)) (qv F)
  obtain ⟨g2, H⟩ := H
  refine w_imul rfl g2 ?_
  refine m_put rfl rfl rfl ?_
  refine w_aload_n rfl rfl ?_
  refine w_iconst (n := 0) rfl rfl ?_
  refine m_put rfl rfl rfl ?_
  refine w_aload_n rfl rfl ?_
  refine w_iload_n rfl rfl ?_
  refine m_put rfl rfl rfl ?_
  refine w_aload_n rfl rfl ?_
  refine w_iconst (n := 0) rfl rfl ?_
  refine m_put rfl rfl rfl ?_
  refine w_aload_n rfl rfl ?_
  refine w_iconst (n := 0) rfl rfl ?_
  refine m_put rfl rfl rfl ?_
  refine w_aload_n rfl rfl ?_
  refine w_bipush (n := (-9)) rfl rfl rfl ?_
  refine m_put rfl rfl rfl ?_
  refine w_aload_n rfl rfl ?_
  refine m_call (as := []) (r := []) rfl rfl rfl rfl rfl rfl (wc_mono H (Nat.le_refl _) ?_)
  rintro _ s3 ⟨rfl, H⟩
  show wm iv L h0 (d + 1) 134 59 [lr 307, li a1, li a2] [] s3 (qv F)
  refine w_aload_n rfl rfl ?_
  refine m_call (as := []) (r := []) rfl rfl rfl rfl rfl rfl (wc_mono H (Nat.le_refl _) ?_)
  rintro _ s4 ⟨rfl, H⟩
  show wm iv L h0 (d + 1) 134 63 [lr 307, li a1, li a2] [] s4 (qv F)
  refine w_aload_n rfl rfl ?_
  refine w_aload_n rfl rfl ?_
  refine m_get rfl rfl ?_
  refine m_put rfl rfl rfl ?_
  refine w_iconst (n := 0) rfl rfl ?_
  refine w_istore_n rfl rfl ?_
  exact wp_ls (sl_s (sl_n (sl_n (sl_s (sl_0))))) H

/-- HoleDeskModel.beginWork(II)V at 73 -/
theorem B134_73 {iv : List (Int × Int)} {L : Nat} {h0 : MH} {d : Nat} {s : SM} {l3 : Int} {F : SM → Prop} (H : ((s.1 18 ≤ l3 → F s) ∧ (l3 < s.1 18 → (0 ≤ l3 ∧ l3 < 80) ∧ (0 ≤ s.2 17 l3 ∧ s.2 17 l3 < 3004) ∧ (-2147483648 ≤ l3 + 1 ∧ l3 + 1 ≤ 2147483647) ∧ wm iv L h0 (d + 1) 134 73 [lr 307, ln, ln, li (l3 + 1)] [] (ua (ua s 64 l3 (s.2 17 l3)) 65 l3 (s.2 21 (s.2 17 l3))) (qv F)))) : wm iv L h0 (d + 1) 134 73 [lr 307, ln, ln, li l3] [] s (qv F) := by
  refine w_iload_n rfl rfl ?_
  refine w_aload_n rfl rfl ?_
  refine m_get rfl rfl ?_
  refine w_icmp_ge rfl (fun h => ?_) (fun h => ?_)
  · replace H := H.1 h
    exact w_ret rfl rfl ⟨rfl, H⟩
  · replace H := H.2 h
    refine w_aload_n rfl rfl ?_
    refine m_geta (t := 0) (k := 80) rfl rfl ?_
    refine w_iload_n rfl rfl ?_
    refine w_aload_n rfl rfl ?_
    refine m_geta (t := 0) (k := 80) rfl rfl ?_
    refine w_iload_n rfl rfl ?_
    obtain ⟨g1, H⟩ := H
    refine m_ald rfl (f := 17) (k := 80) rfl g1 ?_
    refine m_ast rfl (f := 64) (k := 80) rfl g1 ?_
    refine w_aload_n rfl rfl ?_
    refine m_geta (t := 0) (k := 80) rfl rfl ?_
    refine w_iload_n rfl rfl ?_
    refine w_aload_n rfl rfl ?_
    refine m_geta (t := 0) (k := 3004) rfl rfl ?_
    refine w_aload_n rfl rfl ?_
    refine m_geta (t := 0) (k := 80) rfl rfl ?_
    refine w_iload_n rfl rfl ?_
    refine m_ald rfl (f := 17) (k := 80) rfl g1 ?_
    show wm iv L h0 (d + 1) 134 108 [lr 307, ln, ln, li l3] [vi (s.2 17 l3), vr 322, vi l3, vr 348] (ua s 64 l3 (s.2 17 l3)) (qv F)
    obtain ⟨g2, H⟩ := H
    refine m_ald rfl (f := 21) (k := 3004) rfl g2 ?_
    show wm iv L h0 (d + 1) 134 109 [lr 307, ln, ln, li l3] [vi (s.2 21 (s.2 17 l3)), vi l3, vr 348] (ua s 64 l3 (s.2 17 l3)) (qv F)
    refine m_ast rfl (f := 65) (k := 80) rfl g1 ?_
    obtain ⟨g3, H⟩ := H
    refine w_iinc rfl rfl rfl g3 ?_
    refine w_goto rfl ?_
    exact wp_ls (sl_s (sl_n (sl_n (sl_s (sl_0))))) H
end
section
/-! What the methods of the reference come to. Printed by wip/gen2/gens.py. -/
/-- HoleDeskModel.endWork(I)I -/
theorem B135 {iv : List (Int × Int)} {L : Nat} {h0 : MH} {d : Nat} {s : SM} {a1 : Int} {F : Int → SM → Prop} (H : wm iv L h0 d 135 2 [lr 307, li a1, li 0] [] s (qi F)) : cm iv L h0 d 135 [vr 307, vi a1] s (qi F) := by
  show wm iv L h0 d 135 0 [lr 307, li a1] [] s (qi F)
  refine w_iconst (n := 0) rfl rfl ?_
  refine w_istore_n rfl rfl ?_
  exact wp_ls (sl_s (sl_s (sl_s (sl_0)))) H

/-- HoleDeskModel.endWork(I)I at 2 -/
theorem B135_2 {iv : List (Int × Int)} {L : Nat} {h0 : MH} {d : Nat} {s : SM} {l1 : Int} {l2 : Int} {F : Int → SM → Prop} (H : ((s.1 8 ≤ l2 → ((s.1 59 ≤ 0 → (0 ≤ l1 ∧ l1 < 2600) ∧ ((s.2 51 l1 = 0 → F 0 (us (us (us s 62 l1) 35 0) 61 0)) ∧ (s.2 51 l1 ≠ 0 → F 1 (us (us (us s 62 l1) 35 0) 61 1)))) ∧ (0 < s.1 59 → F (s.1 59) (us (us (us s 62 l1) 35 0) 61 (s.1 59))))) ∧ (l2 < s.1 8 → (0 ≤ l2 ∧ l2 < 3004) ∧ (-2147483648 ≤ l2 + 1 ∧ l2 + 1 ≤ 2147483647) ∧ wm iv L h0 d 135 2 [lr 307, li l1, li (l2 + 1)] [] (ua s 42 l2 0) (qi F)))) : wm iv L h0 d 135 2 [lr 307, li l1, li l2] [] s (qi F) := by
  refine w_iload_n rfl rfl ?_
  refine w_aload_n rfl rfl ?_
  refine m_get rfl rfl ?_
  refine w_icmp_ge rfl (fun h => ?_) (fun h => ?_)
  · replace H := H.1 h
    refine w_aload_n rfl rfl ?_
    refine w_iload_n rfl rfl ?_
    refine m_put rfl rfl rfl ?_
    refine w_aload_n rfl rfl ?_
    refine w_iconst (n := 0) rfl rfl ?_
    refine m_putz rfl rfl rfl (by decide) ?_
    refine w_aload_n rfl rfl ?_
    refine w_aload_n rfl rfl ?_
    refine m_get rfl rfl ?_
    show wm iv L h0 d 135 38 [lr 307, li l1, li l2] [vi (s.1 59), vr 307] (us (us s 62 l1) 35 0) (qi F)
    refine w_if_le rfl (fun h => ?_) (fun h => ?_)
    · replace H := H.1 h
      refine w_aload_n rfl rfl ?_
      refine m_geta (t := 2) (k := 2600) rfl rfl ?_
      refine w_iload_n rfl rfl ?_
      obtain ⟨g1, H⟩ := H
      refine m_bald (t := 2) rfl (f := 51) (k := 2600) rfl g1 ?_
      show wm iv L h0 d 135 54 [lr 307, li l1, li l2] [vi (s.2 51 l1), vr 307] (us (us s 62 l1) 35 0) (qi F)
      refine w_if_eq rfl (fun h => ?_) (fun h => ?_)
      · replace H := H.1 h
        refine w_iconst (n := 0) rfl rfl ?_
        refine m_put rfl rfl rfl ?_
        refine w_aload_n rfl rfl ?_
        refine m_get rfl rfl ?_
        show wm iv L h0 d 135 69 [lr 307, li l1, li l2] [vi 0] (us (us (us s 62 l1) 35 0) 61 0) (qi F)
        exact w_iret rfl rfl ⟨_, rfl, H⟩
      · replace H := H.2 h
        refine w_iconst (n := 1) rfl rfl ?_
        refine w_goto rfl ?_
        refine m_put rfl rfl rfl ?_
        refine w_aload_n rfl rfl ?_
        refine m_get rfl rfl ?_
        show wm iv L h0 d 135 69 [lr 307, li l1, li l2] [vi 1] (us (us (us s 62 l1) 35 0) 61 1) (qi F)
        exact w_iret rfl rfl ⟨_, rfl, H⟩
    · replace H := H.2 h
      refine w_aload_n rfl rfl ?_
      refine m_get rfl rfl ?_
      show wm iv L h0 d 135 45 [lr 307, li l1, li l2] [vi (s.1 59), vr 307] (us (us s 62 l1) 35 0) (qi F)
      refine w_goto rfl ?_
      refine m_put rfl rfl rfl ?_
      refine w_aload_n rfl rfl ?_
      refine m_get rfl rfl ?_
      show wm iv L h0 d 135 69 [lr 307, li l1, li l2] [vi (s.1 59)] (us (us (us s 62 l1) 35 0) 61 (s.1 59)) (qi F)
      exact w_iret rfl rfl ⟨_, rfl, H⟩
  · replace H := H.2 h
    refine w_aload_n rfl rfl ?_
    refine m_geta (t := 0) (k := 3004) rfl rfl ?_
    refine w_iload_n rfl rfl ?_
    refine w_iconst (n := 0) rfl rfl ?_
    obtain ⟨g2, H⟩ := H
    refine m_ast rfl (f := 42) (k := 3004) rfl g2 ?_
    obtain ⟨g3, H⟩ := H
    refine w_iinc rfl rfl rfl g3 ?_
    refine w_goto rfl ?_
    exact wp_ls (sl_s (sl_s (sl_s (sl_0)))) H

/-- HoleDeskModel.work(I)I -/
theorem B136 {iv : List (Int × Int)} {L : Nat} {h0 : MH} {d : Nat} {s : SM} {a1 : Int} {F : Int → SM → Prop} (H : ((0 ≤ a1 ∧ a1 ≤ 300 → cm iv L h0 d 134 [vr 307, vi a1, vi 0] s (qv fun s1 => cm iv L h0 d 122 [vr 307, vi (-9)] s1 (qi fun r3 s2 => cm iv L h0 d 126 [vr 307, vi (s2.1 15), vi r3] s2 (qi fun r5 s4 => cm iv L h0 d 135 [vr 307, vi r5] s4 (qi fun r7 s6 => F r7 s6))))) ∧ (a1 < 0 ∨ 300 < a1 → F (-1) s))) : cm iv L h0 (d + 1) 136 [vr 307, vi a1] s (qi F) := by
  show wm iv L h0 (d + 1) 136 0 [lr 307, li a1] [] s (qi F)
  refine w_iload_n rfl rfl ?_
  refine w_iconst (n := 0) rfl rfl ?_
  refine w_sipush (n := 300) rfl rfl rfl ?_
  refine w_static (as := [vi a1, vi 0, vi 300]) (r := []) rfl rfl rfl rfl rfl (m_in (fun h => ?_) (fun h => ?_))
  · show wm iv L h0 (d + 1) 136 8 [lr 307, li a1] [vi 1] s (qi F)
    replace H := H.1 h
    refine w_if_ne rfl (fun _ => ?_) (fun h => absurd h (by decide))
    refine w_aload_n rfl rfl ?_
    refine w_iload_n rfl rfl ?_
    refine w_iconst (n := 0) rfl rfl ?_
    refine m_call (as := [vi a1, vi 0]) (r := []) rfl rfl rfl rfl rfl rfl (wc_mono H (Nat.le_refl _) ?_)
    rintro _ s1 ⟨rfl, H⟩
    show wm iv L h0 (d + 1) 136 19 [lr 307, li a1] [] s1 (qi F)
    refine w_aload_n rfl rfl ?_
    refine w_bipush (n := (-9)) rfl rfl rfl ?_
    refine m_call (as := [vi (-9)]) (r := []) rfl rfl rfl rfl rfl rfl (wc_mono H (Nat.le_refl _) ?_)
    rintro _ s2 ⟨r3, rfl, H⟩
    show wm iv L h0 (d + 1) 136 25 [lr 307, li a1] [vi r3] s2 (qi F)
    refine w_istore_n rfl rfl ?_
    refine w_aload_n rfl rfl ?_
    refine w_aload_n rfl rfl ?_
    refine w_aload_n rfl rfl ?_
    refine m_get rfl rfl ?_
    refine w_iload_n rfl rfl ?_
    refine m_call (as := [vi (s2.1 15), vi r3]) (r := [vr 307]) rfl rfl rfl rfl rfl rfl (wc_mono H (Nat.le_refl _) ?_)
    rintro _ s4 ⟨r5, rfl, H⟩
    show wm iv L h0 (d + 1) 136 36 [lr 307, li a1, li r3] [vi r5, vr 307] s4 (qi F)
    refine m_call (as := [vi r5]) (r := []) rfl rfl rfl rfl rfl rfl (wc_mono H (Nat.le_refl _) ?_)
    rintro _ s6 ⟨r7, rfl, H⟩
    show wm iv L h0 (d + 1) 136 39 [lr 307, li a1, li r3] [vi r7] s6 (qi F)
    exact w_iret rfl rfl ⟨_, rfl, H⟩
  · show wm iv L h0 (d + 1) 136 8 [lr 307, li a1] [vi 0] s (qi F)
    replace H := H.2 h
    refine w_if_ne rfl (fun h => absurd h (by decide)) (fun _ => ?_)
    refine w_iconst (n := (-1)) rfl rfl ?_
    exact w_iret rfl rfl ⟨_, rfl, H⟩

/-- HoleDeskModel.areReasonsSame()Z -/
theorem B137 {iv : List (Int × Int)} {L : Nat} {h0 : MH} {d : Nat} {s : SM} {F : Int → SM → Prop} (H : cm iv L h0 d 86 [vr 307] s (qv fun s1 => cm iv L h0 d 79 [vr 307] s1 (qv fun s2 => wm iv L h0 (d + 1) 137 10 [lr 307, li 0] [] s2 (qi F)))) : cm iv L h0 (d + 1) 137 [vr 307] s (qi F) := by
  show wm iv L h0 (d + 1) 137 0 [lr 307] [] s (qi F)
  refine w_aload_n rfl rfl ?_
  refine m_call (as := []) (r := []) rfl rfl rfl rfl rfl rfl (wc_mono H (Nat.le_refl _) ?_)
  rintro _ s1 ⟨rfl, H⟩
  show wm iv L h0 (d + 1) 137 4 [lr 307] [] s1 (qi F)
  refine w_aload_n rfl rfl ?_
  refine m_call (as := []) (r := []) rfl rfl rfl rfl rfl rfl (wc_mono H (Nat.le_refl _) ?_)
  rintro _ s2 ⟨rfl, H⟩
  show wm iv L h0 (d + 1) 137 8 [lr 307] [] s2 (qi F)
  refine w_iconst (n := 0) rfl rfl ?_
  refine w_istore_n rfl rfl ?_
  exact wp_ls (sl_s (sl_s (sl_0))) H

/-- HoleDeskModel.areReasonsSame()Z at 10 -/
theorem B137_10 {iv : List (Int × Int)} {L : Nat} {h0 : MH} {d : Nat} {s : SM} {l1 : Int} {F : Int → SM → Prop} (H : ((s.1 63 ≤ l1 → F 1 s) ∧ (l1 < s.1 63 → wm iv L h0 (d + 1) 137 20 [lr 307, li l1, li 0] [] s (qi F)))) : wm iv L h0 (d + 1) 137 10 [lr 307, li l1] [] s (qi F) := by
  refine w_iload_n rfl rfl ?_
  refine w_aload_n rfl rfl ?_
  refine m_get rfl rfl ?_
  refine w_icmp_ge rfl (fun h => ?_) (fun h => ?_)
  · replace H := H.1 h
    refine w_iconst (n := 1) rfl rfl ?_
    exact w_iretz rfl rfl (by decide) ⟨_, rfl, H⟩
  · replace H := H.2 h
    refine w_iconst (n := 0) rfl rfl ?_
    refine w_istore_n rfl rfl ?_
    exact wp_ls (sl_s (sl_s (sl_s (sl_0)))) H

/-- HoleDeskModel.areReasonsSame()Z at 20 -/
theorem B137_20 {iv : List (Int × Int)} {L : Nat} {h0 : MH} {d : Nat} {s : SM} {l1 : Int} {l2 : Int} {F : Int → SM → Prop} (H : ((s.1 18 ≤ l2 → (-2147483648 ≤ l1 + 1 ∧ l1 + 1 ≤ 2147483647) ∧ wm iv L h0 (d + 1) 137 10 [lr 307, li (l1 + 1)] [] s (qi F)) ∧ (l2 < s.1 18 → (0 ≤ l2 ∧ l2 < 80) ∧ (0 ≤ l1 ∧ l1 < 80) ∧ ((s.2 17 l2 ≠ s.2 64 l1 → (-2147483648 ≤ l2 + 1 ∧ l2 + 1 ≤ 2147483647) ∧ wm iv L h0 (d + 1) 137 20 [lr 307, li l1, li (l2 + 1)] [] s (qi F)) ∧ (s.2 17 l2 = s.2 64 l1 → (0 ≤ s.2 17 l2 ∧ s.2 17 l2 < 3004) ∧ ((s.2 21 (s.2 17 l2) = s.2 65 l1 → (-2147483648 ≤ l2 + 1 ∧ l2 + 1 ≤ 2147483647) ∧ wm iv L h0 (d + 1) 137 20 [lr 307, li l1, li (l2 + 1)] [] s (qi F)) ∧ (s.2 21 (s.2 17 l2) ≠ s.2 65 l1 → F 0 s))))))) : wm iv L h0 (d + 1) 137 20 [lr 307, li l1, li l2] [] s (qi F) := by
  refine w_iload_n rfl rfl ?_
  refine w_aload_n rfl rfl ?_
  refine m_get rfl rfl ?_
  refine w_icmp_ge rfl (fun h => ?_) (fun h => ?_)
  · replace H := H.1 h
    obtain ⟨g1, H⟩ := H
    refine w_iinc rfl rfl rfl g1 ?_
    refine w_goto rfl ?_
    exact wp_ls (sl_s (sl_s (sl_0))) H
  · replace H := H.2 h
    refine w_aload_n rfl rfl ?_
    refine m_geta (t := 0) (k := 80) rfl rfl ?_
    refine w_iload_n rfl rfl ?_
    obtain ⟨g2, H⟩ := H
    refine m_ald rfl (f := 17) (k := 80) rfl g2 ?_
    refine w_aload_n rfl rfl ?_
    refine m_geta (t := 0) (k := 80) rfl rfl ?_
    refine w_iload_n rfl rfl ?_
    obtain ⟨g3, H⟩ := H
    refine m_ald rfl (f := 64) (k := 80) rfl g3 ?_
    refine w_icmp_ne rfl (fun h => ?_) (fun h => ?_)
    · replace H := H.1 h
      obtain ⟨g4, H⟩ := H
      refine w_iinc rfl rfl rfl g4 ?_
      refine w_goto rfl ?_
      exact wp_ls (sl_s (sl_s (sl_s (sl_0)))) H
    · replace H := H.2 h
      refine w_aload_n rfl rfl ?_
      refine m_geta (t := 0) (k := 3004) rfl rfl ?_
      refine w_aload_n rfl rfl ?_
      refine m_geta (t := 0) (k := 80) rfl rfl ?_
      refine w_iload_n rfl rfl ?_
      refine m_ald rfl (f := 17) (k := 80) rfl g2 ?_
      obtain ⟨g5, H⟩ := H
      refine m_ald rfl (f := 21) (k := 3004) rfl g5 ?_
      refine w_aload_n rfl rfl ?_
      refine m_geta (t := 0) (k := 80) rfl rfl ?_
      refine w_iload_n rfl rfl ?_
      refine m_ald rfl (f := 65) (k := 80) rfl g3 ?_
      refine w_icmp_eq rfl (fun h => ?_) (fun h => ?_)
      · replace H := H.1 h
        obtain ⟨g6, H⟩ := H
        refine w_iinc rfl rfl rfl g6 ?_
        refine w_goto rfl ?_
        exact wp_ls (sl_s (sl_s (sl_s (sl_0)))) H
      · replace H := H.2 h
        refine w_iconst (n := 0) rfl rfl ?_
        exact w_iretz rfl rfl (by decide) ⟨_, rfl, H⟩

/-- HoleDeskModel.resume(I)I -/
theorem B138 {iv : List (Int × Int)} {L : Nat} {h0 : MH} {d : Nat} {s : SM} {a1 : Int} {F : Int → SM → Prop} (H : ((0 ≤ a1 ∧ a1 ≤ 300 → ((s.1 61 = 0 → ((s.1 35 ≠ 0 → F (-4) s) ∧ (s.1 35 = 0 → cm iv L h0 d 137 [vr 307] s (qi fun r2 s1 => ((r2 ≠ 0 → (-2147483648 ≤ 1 - (s1.1 55) ∧ 1 - (s1.1 55) ≤ 2147483647) ∧ cm iv L h0 d 134 [vr 307, vi a1, vi (1 - (s1.1 55))] s1 (qv fun s4 => cm iv L h0 d 132 [vr 307, vi (s1.1 62)] s4 (qi fun r6 s5 => cm iv L h0 d 135 [vr 307, vi r6] s5 (qi fun r8 s7 => F r8 s7)))) ∧ (r2 = 0 → F (-4) s1)))))) ∧ (s.1 61 ≠ 0 → ((s.1 61 ≠ 1 → F (-4) s) ∧ (s.1 61 = 1 → ((s.1 35 ≠ 0 → F (-4) s) ∧ (s.1 35 = 0 → cm iv L h0 d 137 [vr 307] s (qi fun r10 s9 => ((r10 ≠ 0 → (-2147483648 ≤ 1 - (s9.1 55) ∧ 1 - (s9.1 55) ≤ 2147483647) ∧ cm iv L h0 d 134 [vr 307, vi a1, vi (1 - (s9.1 55))] s9 (qv fun s12 => cm iv L h0 d 132 [vr 307, vi (s9.1 62)] s12 (qi fun r14 s13 => cm iv L h0 d 135 [vr 307, vi r14] s13 (qi fun r16 s15 => F r16 s15)))) ∧ (r10 = 0 → F (-4) s9)))))))))) ∧ (a1 < 0 ∨ 300 < a1 → F (-1) s))) : cm iv L h0 (d + 1) 138 [vr 307, vi a1] s (qi F) := by
  show wm iv L h0 (d + 1) 138 0 [lr 307, li a1] [] s (qi F)
  refine w_iload_n rfl rfl ?_
  refine w_iconst (n := 0) rfl rfl ?_
  refine w_sipush (n := 300) rfl rfl rfl ?_
  refine w_static (as := [vi a1, vi 0, vi 300]) (r := []) rfl rfl rfl rfl rfl (m_in (fun h => ?_) (fun h => ?_))
  · show wm iv L h0 (d + 1) 138 8 [lr 307, li a1] [vi 1] s (qi F)
    replace H := H.1 h
    refine w_if_ne rfl (fun _ => ?_) (fun h => absurd h (by decide))
    refine w_aload_n rfl rfl ?_
    refine m_get rfl rfl ?_
    refine w_if_eq rfl (fun h => ?_) (fun h => ?_)
    · replace H := H.1 h
      refine w_aload_n rfl rfl ?_
      refine m_get rfl rfl ?_
      refine w_if_ne rfl (fun h => ?_) (fun h => ?_)
      · replace H := H.1 h
        refine w_bipush (n := (-4)) rfl rfl rfl ?_
        exact w_iret rfl rfl ⟨_, rfl, H⟩
      · replace H := H.2 h
        refine w_aload_n rfl rfl ?_
        refine m_call (as := []) (r := []) rfl rfl rfl rfl rfl rfl (wc_mono H (Nat.le_refl _) ?_)
        rintro _ s1 ⟨r2, rfl, H⟩
        show wm iv L h0 (d + 1) 138 39 [lr 307, li a1] [vi r2] s1 (qi F)
        refine w_if_ne rfl (fun h => ?_) (fun h => ?_)
        · replace H := H.1 h
          refine w_aload_n rfl rfl ?_
          refine m_get rfl rfl ?_
          refine w_istore_n rfl rfl ?_
          refine w_aload_n rfl rfl ?_
          refine w_iload_n rfl rfl ?_
          refine w_iconst (n := 1) rfl rfl ?_
          refine w_aload_n rfl rfl ?_
          refine m_get rfl rfl ?_
          obtain ⟨g3, H⟩ := H
          refine w_isub rfl g3 ?_
          refine m_call (as := [vi a1, vi (1 - (s1.1 55))]) (r := []) rfl rfl rfl rfl rfl rfl (wc_mono H (Nat.le_refl _) ?_)
          rintro _ s4 ⟨rfl, H⟩
          show wm iv L h0 (d + 1) 138 61 [lr 307, li a1, li (s1.1 62)] [] s4 (qi F)
          refine w_aload_n rfl rfl ?_
          refine w_aload_n rfl rfl ?_
          refine w_iload_n rfl rfl ?_
          refine m_call (as := [vi (s1.1 62)]) (r := [vr 307]) rfl rfl rfl rfl rfl rfl (wc_mono H (Nat.le_refl _) ?_)
          rintro _ s5 ⟨r6, rfl, H⟩
          show wm iv L h0 (d + 1) 138 67 [lr 307, li a1, li (s1.1 62)] [vi r6, vr 307] s5 (qi F)
          refine m_call (as := [vi r6]) (r := []) rfl rfl rfl rfl rfl rfl (wc_mono H (Nat.le_refl _) ?_)
          rintro _ s7 ⟨r8, rfl, H⟩
          show wm iv L h0 (d + 1) 138 70 [lr 307, li a1, li (s1.1 62)] [vi r8] s7 (qi F)
          exact w_iret rfl rfl ⟨_, rfl, H⟩
        · replace H := H.2 h
          refine w_bipush (n := (-4)) rfl rfl rfl ?_
          exact w_iret rfl rfl ⟨_, rfl, H⟩
    · replace H := H.2 h
      refine w_aload_n rfl rfl ?_
      refine m_get rfl rfl ?_
      refine w_iconst (n := 1) rfl rfl ?_
      refine w_icmp_ne rfl (fun h => ?_) (fun h => ?_)
      · replace H := H.1 h
        refine w_bipush (n := (-4)) rfl rfl rfl ?_
        exact w_iret rfl rfl ⟨_, rfl, H⟩
      · replace H := H.2 h
        refine w_aload_n rfl rfl ?_
        refine m_get rfl rfl ?_
        refine w_if_ne rfl (fun h => ?_) (fun h => ?_)
        · replace H := H.1 h
          refine w_bipush (n := (-4)) rfl rfl rfl ?_
          exact w_iret rfl rfl ⟨_, rfl, H⟩
        · replace H := H.2 h
          refine w_aload_n rfl rfl ?_
          refine m_call (as := []) (r := []) rfl rfl rfl rfl rfl rfl (wc_mono H (Nat.le_refl _) ?_)
          rintro _ s9 ⟨r10, rfl, H⟩
          show wm iv L h0 (d + 1) 138 39 [lr 307, li a1] [vi r10] s9 (qi F)
          refine w_if_ne rfl (fun h => ?_) (fun h => ?_)
          · replace H := H.1 h
            refine w_aload_n rfl rfl ?_
            refine m_get rfl rfl ?_
            refine w_istore_n rfl rfl ?_
            refine w_aload_n rfl rfl ?_
            refine w_iload_n rfl rfl ?_
            refine w_iconst (n := 1) rfl rfl ?_
            refine w_aload_n rfl rfl ?_
            refine m_get rfl rfl ?_
            obtain ⟨g11, H⟩ := H
            refine w_isub rfl g11 ?_
            refine m_call (as := [vi a1, vi (1 - (s9.1 55))]) (r := []) rfl rfl rfl rfl rfl rfl (wc_mono H (Nat.le_refl _) ?_)
            rintro _ s12 ⟨rfl, H⟩
            show wm iv L h0 (d + 1) 138 61 [lr 307, li a1, li (s9.1 62)] [] s12 (qi F)
            refine w_aload_n rfl rfl ?_
            refine w_aload_n rfl rfl ?_
            refine w_iload_n rfl rfl ?_
            refine m_call (as := [vi (s9.1 62)]) (r := [vr 307]) rfl rfl rfl rfl rfl rfl (wc_mono H (Nat.le_refl _) ?_)
            rintro _ s13 ⟨r14, rfl, H⟩
            show wm iv L h0 (d + 1) 138 67 [lr 307, li a1, li (s9.1 62)] [vi r14, vr 307] s13 (qi F)
            refine m_call (as := [vi r14]) (r := []) rfl rfl rfl rfl rfl rfl (wc_mono H (Nat.le_refl _) ?_)
            rintro _ s15 ⟨r16, rfl, H⟩
            show wm iv L h0 (d + 1) 138 70 [lr 307, li a1, li (s9.1 62)] [vi r16] s15 (qi F)
            exact w_iret rfl rfl ⟨_, rfl, H⟩
          · replace H := H.2 h
            refine w_bipush (n := (-4)) rfl rfl rfl ?_
            exact w_iret rfl rfl ⟨_, rfl, H⟩
  · show wm iv L h0 (d + 1) 138 8 [lr 307, li a1] [vi 0] s (qi F)
    replace H := H.2 h
    refine w_if_ne rfl (fun h => absurd h (by decide)) (fun _ => ?_)
    refine w_iconst (n := (-1)) rfl rfl ?_
    exact w_iret rfl rfl ⟨_, rfl, H⟩

/-- HoleDeskModel.steps()I -/
theorem B139 {iv : List (Int × Int)} {L : Nat} {h0 : MH} {d : Nat} {s : SM} {F : Int → SM → Prop} (H : F (s.1 56) s) : cm iv L h0 d 139 [vr 307] s (qi F) := by
  show wm iv L h0 d 139 0 [lr 307] [] s (qi F)
  refine w_aload_n rfl rfl ?_
  refine m_get rfl rfl ?_
  exact w_iret rfl rfl ⟨_, rfl, H⟩

/-- HoleDeskModel.where()I -/
theorem B140 {iv : List (Int × Int)} {L : Nat} {h0 : MH} {d : Nat} {s : SM} {F : Int → SM → Prop} (H : F (s.1 60) s) : cm iv L h0 d 140 [vr 307] s (qi F) := by
  show wm iv L h0 d 140 0 [lr 307] [] s (qi F)
  refine w_aload_n rfl rfl ?_
  refine m_get rfl rfl ?_
  exact w_iret rfl rfl ⟨_, rfl, H⟩

/-- HoleDeskModel.out(I)V -/
theorem B141 {iv : List (Int × Int)} {L : Nat} {h0 : MH} {d : Nat} {s : SM} {a1 : Int} {F : SM → Prop} (H : ((400 ≤ s.1 67 → F s) ∧ (s.1 67 < 400 → (0 ≤ s.1 67 ∧ s.1 67 < 400) ∧ (-128 ≤ w8 a1 ∧ w8 a1 ≤ 127) ∧ (-2147483648 ≤ (s.1 67) + 1 ∧ (s.1 67) + 1 ≤ 2147483647) ∧ F (us (ua s 66 (s.1 67) (w8 a1)) 67 ((s.1 67) + 1))))) : cm iv L h0 d 141 [vr 307, vi a1] s (qv F) := by
  show wm iv L h0 d 141 0 [lr 307, li a1] [] s (qv F)
  refine w_aload_n rfl rfl ?_
  refine m_get rfl rfl ?_
  refine w_sipush (n := 400) rfl rfl rfl ?_
  refine w_icmp_ge rfl (fun h => ?_) (fun h => ?_)
  · replace H := H.1 h
    exact w_ret rfl rfl ⟨rfl, H⟩
  · replace H := H.2 h
    refine w_aload_n rfl rfl ?_
    refine m_geta (t := 1) (k := 400) rfl rfl ?_
    refine w_aload_n rfl rfl ?_
    refine m_get rfl rfl ?_
    refine w_iload_n rfl rfl ?_
    refine w_i2b rfl ?_
    obtain ⟨g1, H⟩ := H
    obtain ⟨g2, H⟩ := H
    refine m_bast (t := 1) rfl (f := 66) (k := 400) rfl g1 (Or.inl ⟨rfl, g2⟩) ?_
    refine w_aload_n rfl rfl ?_
    refine w_dup rfl rfl ?_
    refine m_get rfl rfl ?_
    show wm iv L h0 d 141 26 [lr 307, li a1] [vi (s.1 67), vr 307] (ua s 66 (s.1 67) (w8 a1)) (qv F)
    refine w_iconst (n := 1) rfl rfl ?_
    obtain ⟨g3, H⟩ := H
    refine w_iadd rfl g3 ?_
    refine m_put rfl rfl rfl ?_
    exact w_ret rfl rfl ⟨rfl, H⟩

/-- HoleDeskModel.outNumber(I)V -/
theorem B142 {iv : List (Int × Int)} {L : Nat} {h0 : MH} {d : Nat} {s : SM} {a1 : Int} {F : SM → Prop} (H : ((0 ≤ a1 → wm iv L h0 (d + 1) 142 19 [lr 307, ln, ll a1, ln, li 0] [] s (qv F)) ∧ (a1 < 0 → cm iv L h0 d 141 [vr 307, vi 45] s (qv fun s1 => wm iv L h0 (d + 1) 142 19 [lr 307, ln, ll (-a1), ln, li 0] [] s1 (qv F))))) : cm iv L h0 (d + 1) 142 [vr 307, vi a1] s (qv F) := by
  show wm iv L h0 (d + 1) 142 0 [lr 307, li a1] [] s (qv F)
  refine w_iload_n rfl rfl ?_
  refine w_i2l rfl ?_
  refine w_lstore_n rfl rfl ?_
  refine w_iload_n rfl rfl ?_
  refine w_if_ge rfl (fun h => ?_) (fun h => ?_)
  · replace H := H.1 h
    refine w_iconst (n := 0) rfl rfl ?_
    refine w_istore rfl rfl ?_
    exact wp_ls (sl_s (sl_n (sl_s (sl_n (sl_s (sl_0)))))) H
  · replace H := H.2 h
    refine w_aload_n rfl rfl ?_
    refine w_bipush (n := 45) rfl rfl rfl ?_
    refine m_call (as := [vi 45]) (r := []) rfl rfl rfl rfl rfl rfl (wc_mono H (Nat.le_refl _) ?_)
    rintro _ s1 ⟨rfl, H⟩
    show wm iv L h0 (d + 1) 142 13 [lr 307, li a1, ll a1, ln] [] s1 (qv F)
    refine w_lload_n rfl rfl ?_
    refine w_lneg rfl ?_
    refine w_lstore_n rfl rfl ?_
    refine w_iconst (n := 0) rfl rfl ?_
    refine w_istore rfl rfl ?_
    exact wp_ls (sl_s (sl_n (sl_s (sl_n (sl_s (sl_0)))))) H

/-- HoleDeskModel.outNumber(I)V at 19 -/
theorem B142_19 {iv : List (Int × Int)} {L : Nat} {h0 : MH} {d : Nat} {s : SM} {l2 : Int} {l4 : Int} {F : SM → Prop} (H : (inL l2) ∧ (inL 10) ∧ (inL (l2.tdiv 10)) ∧ (0 ≤ l4 ∧ l4 < 12) ∧ (-2147483648 ≤ l4 + 1 ∧ l4 + 1 ≤ 2147483647) ∧ (inL 0) ∧ ((0 < lcp (l2.tdiv 10) 0 → wm iv L h0 (d + 1) 142 19 [lr 307, ln, ll (l2.tdiv 10), ln, li (l4 + 1)] [] (ua s 70 l4 (w32 (l2 - l2.tdiv 10 * 10))) (qv F)) ∧ (lcp (l2.tdiv 10) 0 ≤ 0 → (-2147483648 ≤ (l4 + 1) - 1 ∧ (l4 + 1) - 1 ≤ 2147483647) ∧ wm iv L h0 (d + 1) 142 53 [lr 307, ln, ln, ln, ln, li ((l4 + 1) - 1)] [] (ua s 70 l4 (w32 (l2 - l2.tdiv 10 * 10))) (qv F)))) : wm iv L h0 (d + 1) 142 19 [lr 307, ln, ll l2, ln, li l4] [] s (qv F) := by
  refine w_aload_n rfl rfl ?_
  refine m_geta (t := 0) (k := 12) rfl rfl ?_
  refine w_iload rfl rfl ?_
  refine w_lload_n rfl rfl ?_
  refine w_ldc2 (z := 10) rfl rfl ?_
  obtain ⟨g1, H⟩ := H
  obtain ⟨g2, H⟩ := H
  obtain ⟨g3, H⟩ := H
  refine w_lrem rfl g1 g2 (by decide) g3 ?_
  refine w_l2i rfl ?_
  obtain ⟨g4, H⟩ := H
  refine m_ast rfl (f := 70) (k := 12) rfl g4 ?_
  obtain ⟨g5, H⟩ := H
  refine w_iinc rfl rfl rfl g5 ?_
  refine w_lload_n rfl rfl ?_
  refine w_ldc2 (z := 10) rfl rfl ?_
  refine w_ldiv rfl g1 g2 (by decide) g3 ?_
  refine w_lstore_n rfl rfl ?_
  refine w_lload_n rfl rfl ?_
  refine w_lconst (z := 0) rfl rfl ?_
  obtain ⟨g6, H⟩ := H
  refine w_lcmp rfl g3 g6 ?_
  refine w_if_gt rfl (fun h => ?_) (fun h => ?_)
  · replace H := H.1 h
    exact wp_ls (sl_s (sl_n (sl_s (sl_n (sl_s (sl_0)))))) H
  · replace H := H.2 h
    refine w_iload rfl rfl ?_
    refine w_iconst (n := 1) rfl rfl ?_
    obtain ⟨g7, H⟩ := H
    refine w_isub rfl g7 ?_
    refine w_istore rfl rfl ?_
    exact wp_ls (sl_s (sl_n (sl_n (sl_n (sl_n (sl_s (sl_0))))))) H

/-- HoleDeskModel.outNumber(I)V at 53 -/
theorem B142_53 {iv : List (Int × Int)} {L : Nat} {h0 : MH} {d : Nat} {s : SM} {l5 : Int} {F : SM → Prop} (H : ((l5 < 0 → F s) ∧ (0 ≤ l5 → (0 ≤ l5 ∧ l5 < 12) ∧ (-2147483648 ≤ 48 + (s.2 70 l5) ∧ 48 + (s.2 70 l5) ≤ 2147483647) ∧ cm iv L h0 d 141 [vr 307, vi (48 + (s.2 70 l5))] s (qv fun s3 => (-2147483648 ≤ l5 - 1 ∧ l5 - 1 ≤ 2147483647) ∧ wm iv L h0 (d + 1) 142 53 [lr 307, ln, ln, ln, ln, li (l5 - 1)] [] s3 (qv F))))) : wm iv L h0 (d + 1) 142 53 [lr 307, ln, ln, ln, ln, li l5] [] s (qv F) := by
  refine w_iload rfl rfl ?_
  refine w_if_lt rfl (fun h => ?_) (fun h => ?_)
  · replace H := H.1 h
    exact w_ret rfl rfl ⟨rfl, H⟩
  · replace H := H.2 h
    refine w_aload_n rfl rfl ?_
    refine w_bipush (n := 48) rfl rfl rfl ?_
    refine w_aload_n rfl rfl ?_
    refine m_geta (t := 0) (k := 12) rfl rfl ?_
    refine w_iload rfl rfl ?_
    obtain ⟨g1, H⟩ := H
    refine m_ald rfl (f := 70) (k := 12) rfl g1 ?_
    obtain ⟨g2, H⟩ := H
    refine w_iadd rfl g2 ?_
    refine m_call (as := [vi (48 + (s.2 70 l5))]) (r := []) rfl rfl rfl rfl rfl rfl (wc_mono H (Nat.le_refl _) ?_)
    rintro _ s3 ⟨rfl, H⟩
    show wm iv L h0 (d + 1) 142 72 [lr 307, ln, ln, ln, ln, li l5] [] s3 (qv F)
    obtain ⟨g4, H⟩ := H
    refine w_iinc rfl rfl rfl g4 ?_
    show wm iv L h0 (d + 1) 142 75 [lr 307, ln, ln, ln, ln, li (l5 - 1)] [] s3 (qv F)
    refine w_goto rfl ?_
    exact wp_ls (sl_s (sl_n (sl_n (sl_n (sl_n (sl_s (sl_0))))))) H

/-- HoleDeskModel.outWord(Ljava/lang/String;)V -/
theorem B143 {iv : List (Int × Int)} {L : Nat} {h0 : MH} {d : Nat} {s : SM} {a1 : Nat} {F : SM → Prop} (H : wm iv L h0 (d + 1) 143 2 [lr 307, lr a1, li 0] [] s (qv F)) : cm iv L h0 (d + 1) 143 [vr 307, vr a1] s (qv F) := by
  show wm iv L h0 (d + 1) 143 0 [lr 307, lr a1] [] s (qv F)
  refine w_iconst (n := 0) rfl rfl ?_
  refine w_istore_n rfl rfl ?_
  exact wp_ls (sl_s (sl_s (sl_s (sl_0)))) H

/-- HoleDeskModel.outWord(Ljava/lang/String;)V at 2 -/
theorem B143_2 {iv : List (Int × Int)} {L : Nat} {h0 : MH} {d : Nat} {s : SM} {l1 : Nat} {l2 : Int} {F : SM → Prop} (H : (8 ≤ l1 ∧ l1 < 8 + NS0) ∧ ((slen l1 ≤ l2 → F s) ∧ (l2 < slen l1 → (0 ≤ l2 ∧ l2 < slen l1) ∧ cm iv L h0 d 141 [vr 307, vi (scat l1 l2)] s (qv fun s3 => (-2147483648 ≤ l2 + 1 ∧ l2 + 1 ≤ 2147483647) ∧ wm iv L h0 (d + 1) 143 2 [lr 307, lr l1, li (l2 + 1)] [] s3 (qv F))))) : wm iv L h0 (d + 1) 143 2 [lr 307, lr l1, li l2] [] s (qv F) := by
  refine w_iload_n rfl rfl ?_
  refine w_aload_n rfl rfl ?_
  obtain ⟨g1, H⟩ := H
  refine w_slen rfl g1 rfl ?_
  refine w_icmp_ge rfl (fun h => ?_) (fun h => ?_)
  · replace H := H.1 h
    exact w_ret rfl rfl ⟨rfl, H⟩
  · replace H := H.2 h
    refine w_aload_n rfl rfl ?_
    refine w_aload_n rfl rfl ?_
    refine w_iload_n rfl rfl ?_
    obtain ⟨g2, H⟩ := H
    refine w_sat rfl g1 g2 rfl ?_
    refine m_call (as := [vi (scat l1 l2)]) (r := []) rfl rfl rfl rfl rfl rfl (wc_mono H (Nat.le_refl _) ?_)
    rintro _ s3 ⟨rfl, H⟩
    show wm iv L h0 (d + 1) 143 19 [lr 307, lr l1, li l2] [] s3 (qv F)
    obtain ⟨g4, H⟩ := H
    refine w_iinc rfl rfl rfl g4 ?_
    refine w_goto rfl ?_
    exact wp_ls (sl_s (sl_s (sl_s (sl_0)))) H

/-- HoleDeskModel.wordOf(I)Ljava/lang/String; -/
theorem B144 {iv : List (Int × Int)} {L : Nat} {h0 : MH} {d : Nat} {s : SM} {a1 : Int} {F : Nat → SM → Prop} (H : ((a1 = 4 → F 21 s) ∧ (a1 = 5 → F 22 s) ∧ (a1 = 6 → F 23 s) ∧ (a1 = 7 → F 24 s) ∧ (a1 = 8 ∨ a1 = 10 ∨ a1 = 12 ∨ a1 < 4 ∨ 13 < a1 → F 28 s) ∧ (a1 = 9 → F 25 s) ∧ (a1 = 11 → F 26 s) ∧ (a1 = 13 → F 27 s))) : cm iv L h0 d 144 [vi a1] s (qa F) := by
  show wm iv L h0 d 144 0 [li a1] [] s (qa F)
  refine w_iload_n rfl rfl ?_
  have J56 : (a1 = 4) → wm iv L h0 d 144 56 [li a1] [] s (qa F) := fun h => by
    replace H := H.1 h
    refine w_ldcws (x := 21) rfl rfl (by decide) ?_
    exact w_aret rfl rfl ⟨_, rfl, H⟩
  have J60 : (a1 = 5) → wm iv L h0 d 144 60 [li a1] [] s (qa F) := fun h => by
    replace H := H.2.1 h
    refine w_ldcws (x := 22) rfl rfl (by decide) ?_
    exact w_aret rfl rfl ⟨_, rfl, H⟩
  have J64 : (a1 = 6) → wm iv L h0 d 144 64 [li a1] [] s (qa F) := fun h => by
    replace H := H.2.2.1 h
    refine w_ldcws (x := 23) rfl rfl (by decide) ?_
    exact w_aret rfl rfl ⟨_, rfl, H⟩
  have J68 : (a1 = 7) → wm iv L h0 d 144 68 [li a1] [] s (qa F) := fun h => by
    replace H := H.2.2.2.1 h
    refine w_ldcws (x := 24) rfl rfl (by decide) ?_
    exact w_aret rfl rfl ⟨_, rfl, H⟩
  have J84 : (a1 = 8 ∨ a1 = 10 ∨ a1 = 12 ∨ a1 < 4 ∨ 13 < a1) → wm iv L h0 d 144 84 [li a1] [] s (qa F) := fun h => by
    replace H := H.2.2.2.2.1 h
    refine w_ldcws (x := 28) rfl rfl (by decide) ?_
    exact w_aret rfl rfl ⟨_, rfl, H⟩
  have J72 : (a1 = 9) → wm iv L h0 d 144 72 [li a1] [] s (qa F) := fun h => by
    replace H := H.2.2.2.2.2.1 h
    refine w_ldcws (x := 25) rfl rfl (by decide) ?_
    exact w_aret rfl rfl ⟨_, rfl, H⟩
  have J76 : (a1 = 11) → wm iv L h0 d 144 76 [li a1] [] s (qa F) := fun h => by
    replace H := H.2.2.2.2.2.2.1 h
    refine w_ldcws (x := 26) rfl rfl (by decide) ?_
    exact w_aret rfl rfl ⟨_, rfl, H⟩
  have J80 : (a1 = 13) → wm iv L h0 d 144 80 [li a1] [] s (qa F) := fun h => by
    replace H := H.2.2.2.2.2.2.2 h
    refine w_ldcws (x := 27) rfl rfl (by decide) ?_
    exact w_aret rfl rfl ⟨_, rfl, H⟩
  refine w_tsw (td := 84) (ts := [56, 60, 64, 68, 84, 72, 84, 76, 84, 80]) rfl rfl rfl rfl rfl rfl (fun h => J84 (by omega)) ?_
  exact swA_c (fun h => J56 (by omega)) (swA_c (fun h => J60 (by omega)) (swA_c (fun h => J64 (by omega)) (swA_c (fun h => J68 (by omega)) (swA_c (fun h => J84 (by omega)) (swA_c (fun h => J72 (by omega)) (swA_c (fun h => J84 (by omega)) (swA_c (fun h => J76 (by omega)) (swA_c (fun h => J84 (by omega)) (swA_c (fun h => J80 (by omega)) (swA_n))))))))))

/-- HoleDeskModel.outValue(I)V -/
theorem B145 {iv : List (Int × Int)} {L : Nat} {h0 : MH} {d : Nat} {s : SM} {a1 : Int} {F : SM → Prop} (H : ((s.1 67 ≠ 400 → (0 ≤ a1 ∧ a1 < 2600) ∧ ((s.2 46 a1 = 0 → cm iv L h0 d 142 [vr 307, vi (s.2 47 a1)] s (qv fun s2 => F s2)) ∧ (s.2 46 a1 = 1 → ((s.2 47 a1 ≠ 1 → cm iv L h0 d 143 [vr 307, vr 20] s (qv fun s3 => F s3)) ∧ (s.2 47 a1 = 1 → cm iv L h0 d 143 [vr 307, vr 19] s (qv fun s4 => F s4)))) ∧ (s.2 46 a1 = 2 → cm iv L h0 d 141 [vr 307, vi 100] s (qv fun s5 => cm iv L h0 d 142 [vr 307, vi (s5.2 47 a1)] s5 (qv fun s6 => F s6))) ∧ (s.2 46 a1 = 3 → cm iv L h0 d 141 [vr 307, vi 91] s (qv fun s7 => cm iv L h0 d 145 [vr 307, vi (s7.2 48 a1)] s7 (qv fun s8 => cm iv L h0 d 141 [vr 307, vi 32] s8 (qv fun s9 => cm iv L h0 d 145 [vr 307, vi (s9.2 49 a1)] s9 (qv fun s10 => cm iv L h0 d 141 [vr 307, vi 93] s10 (qv fun s11 => F s11)))))) ∧ (s.2 46 a1 = 4 → (0 ≤ s.1 69 ∧ s.1 69 < 400) ∧ (-2147483648 ≤ (s.1 69) + 1 ∧ (s.1 69) + 1 ≤ 2147483647) ∧ cm iv L h0 d 141 [vr 307, vi 63] (us (ua s 68 (s.1 69) a1) 69 ((s.1 69) + 1)) (qv fun s14 => cm iv L h0 d 142 [vr 307, vi (s14.2 47 a1)] s14 (qv fun s15 => F s15))) ∧ (s.2 46 a1 = 5 → cm iv L h0 d 141 [vr 307, vi 33] s (qv fun s16 => (-2147483648 ≤ 97 + (s16.2 47 a1) ∧ 97 + (s16.2 47 a1) ≤ 2147483647) ∧ cm iv L h0 d 141 [vr 307, vi (97 + (s16.2 47 a1))] s16 (qv fun s18 => F s18))) ∧ (s.2 46 a1 = 6 → cm iv L h0 d 141 [vr 307, vi 123] s (qv fun s19 => cm iv L h0 d 145 [vr 307, vi (s19.2 48 a1)] s19 (qv fun s20 => cm iv L h0 d 141 [vr 307, vi 125] s20 (qv fun s21 => F s21)))) ∧ (s.2 46 a1 < 0 ∨ 6 < s.2 46 a1 → cm iv L h0 d 141 [vr 307, vi 40] s (qv fun s22 => (0 ≤ s22.2 47 a1 ∧ s22.2 47 a1 < 3004) ∧ cm iv L h0 d 144 [vi (s22.2 9 (s22.2 47 a1))] s22 (qa fun r25 s24 => cm iv L h0 d 143 [vr 307, vr r25] s24 (qv fun s26 => cm iv L h0 d 141 [vr 307, vi 32] s26 (qv fun s27 => cm iv L h0 d 145 [vr 307, vi (s27.2 48 a1)] s27 (qv fun s28 => ((s28.2 49 a1 = (-9) → (0 ≤ s28.2 47 a1 ∧ s28.2 47 a1 < 3004) ∧ ((s28.2 9 (s28.2 47 a1) ≠ 11 → cm iv L h0 d 141 [vr 307, vi 41] s28 (qv fun s30 => F s30)) ∧ (s28.2 9 (s28.2 47 a1) = 11 → cm iv L h0 d 141 [vr 307, vi 32] s28 (qv fun s31 => cm iv L h0 d 142 [vr 307, vi (s31.2 47 a1)] s31 (qv fun s32 => cm iv L h0 d 141 [vr 307, vi 41] s32 (qv fun s33 => F s33)))))) ∧ (s28.2 49 a1 ≠ (-9) → cm iv L h0 d 141 [vr 307, vi 32] s28 (qv fun s34 => cm iv L h0 d 145 [vr 307, vi (s34.2 49 a1)] s34 (qv fun s35 => (0 ≤ s35.2 47 a1 ∧ s35.2 47 a1 < 3004) ∧ ((s35.2 9 (s35.2 47 a1) ≠ 11 → cm iv L h0 d 141 [vr 307, vi 41] s35 (qv fun s37 => F s37)) ∧ (s35.2 9 (s35.2 47 a1) = 11 → cm iv L h0 d 141 [vr 307, vi 32] s35 (qv fun s38 => cm iv L h0 d 142 [vr 307, vi (s38.2 47 a1)] s38 (qv fun s39 => cm iv L h0 d 141 [vr 307, vi 41] s39 (qv fun s40 => F s40))))))))))))))))) ∧ (s.1 67 = 400 → F s))) : cm iv L h0 (d + 1) 145 [vr 307, vi a1] s (qv F) := by
  show wm iv L h0 (d + 1) 145 0 [lr 307, li a1] [] s (qv F)
  refine w_aload_n rfl rfl ?_
  refine m_get rfl rfl ?_
  refine w_sipush (n := 400) rfl rfl rfl ?_
  refine w_icmp_ne rfl (fun h => ?_) (fun h => ?_)
  · replace H := H.1 h
    refine w_aload_n rfl rfl ?_
    refine m_geta (t := 0) (k := 2600) rfl rfl ?_
    refine w_iload_n rfl rfl ?_
    obtain ⟨g1, H⟩ := H
    refine m_ald rfl (f := 46) (k := 2600) rfl g1 ?_
    have J60 : (s.2 46 a1 = 0) → wm iv L h0 (d + 1) 145 60 [lr 307, li a1] [] s (qv F) := fun h => by
      replace H := H.1 h
      refine w_aload_n rfl rfl ?_
      refine w_aload_n rfl rfl ?_
      refine m_geta (t := 0) (k := 2600) rfl rfl ?_
      refine w_iload_n rfl rfl ?_
      refine m_ald rfl (f := 47) (k := 2600) rfl g1 ?_
      refine m_call (as := [vi (s.2 47 a1)]) (r := []) rfl rfl rfl rfl rfl rfl (wc_mono H (Nat.le_refl _) ?_)
      rintro _ s2 ⟨rfl, H⟩
      show wm iv L h0 (d + 1) 145 70 [lr 307, li a1] [] s2 (qv F)
      refine w_goto rfl ?_
      exact w_ret rfl rfl ⟨rfl, H⟩
    have J73 : (s.2 46 a1 = 1) → wm iv L h0 (d + 1) 145 73 [lr 307, li a1] [] s (qv F) := fun h => by
      replace H := H.2.1 h
      refine w_aload_n rfl rfl ?_
      refine w_aload_n rfl rfl ?_
      refine m_geta (t := 0) (k := 2600) rfl rfl ?_
      refine w_iload_n rfl rfl ?_
      refine m_ald rfl (f := 47) (k := 2600) rfl g1 ?_
      refine w_iconst (n := 1) rfl rfl ?_
      refine w_icmp_ne rfl (fun h => ?_) (fun h => ?_)
      · replace H := H.1 h
        refine w_ldcws (x := 20) rfl rfl (by decide) ?_
        refine m_call (as := [vr 20]) (r := []) rfl rfl rfl rfl rfl rfl (wc_mono H (Nat.le_refl _) ?_)
        rintro _ s3 ⟨rfl, H⟩
        show wm iv L h0 (d + 1) 145 96 [lr 307, li a1] [] s3 (qv F)
        refine w_goto rfl ?_
        exact w_ret rfl rfl ⟨rfl, H⟩
      · replace H := H.2 h
        refine w_ldcws (x := 19) rfl rfl (by decide) ?_
        refine w_goto rfl ?_
        refine m_call (as := [vr 19]) (r := []) rfl rfl rfl rfl rfl rfl (wc_mono H (Nat.le_refl _) ?_)
        rintro _ s4 ⟨rfl, H⟩
        show wm iv L h0 (d + 1) 145 96 [lr 307, li a1] [] s4 (qv F)
        refine w_goto rfl ?_
        exact w_ret rfl rfl ⟨rfl, H⟩
    have J99 : (s.2 46 a1 = 2) → wm iv L h0 (d + 1) 145 99 [lr 307, li a1] [] s (qv F) := fun h => by
      replace H := H.2.2.1 h
      refine w_aload_n rfl rfl ?_
      refine w_bipush (n := 100) rfl rfl rfl ?_
      refine m_call (as := [vi 100]) (r := []) rfl rfl rfl rfl rfl rfl (wc_mono H (Nat.le_refl _) ?_)
      rintro _ s5 ⟨rfl, H⟩
      show wm iv L h0 (d + 1) 145 105 [lr 307, li a1] [] s5 (qv F)
      refine w_aload_n rfl rfl ?_
      refine w_aload_n rfl rfl ?_
      refine m_geta (t := 0) (k := 2600) rfl rfl ?_
      refine w_iload_n rfl rfl ?_
      refine m_ald rfl (f := 47) (k := 2600) rfl g1 ?_
      refine m_call (as := [vi (s5.2 47 a1)]) (r := []) rfl rfl rfl rfl rfl rfl (wc_mono H (Nat.le_refl _) ?_)
      rintro _ s6 ⟨rfl, H⟩
      show wm iv L h0 (d + 1) 145 115 [lr 307, li a1] [] s6 (qv F)
      refine w_goto rfl ?_
      exact w_ret rfl rfl ⟨rfl, H⟩
    have J118 : (s.2 46 a1 = 3) → wm iv L h0 (d + 1) 145 118 [lr 307, li a1] [] s (qv F) := fun h => by
      replace H := H.2.2.2.1 h
      refine w_aload_n rfl rfl ?_
      refine w_bipush (n := 91) rfl rfl rfl ?_
      refine m_call (as := [vi 91]) (r := []) rfl rfl rfl rfl rfl rfl (wc_mono H (Nat.le_refl _) ?_)
      rintro _ s7 ⟨rfl, H⟩
      show wm iv L h0 (d + 1) 145 124 [lr 307, li a1] [] s7 (qv F)
      refine w_aload_n rfl rfl ?_
      refine w_aload_n rfl rfl ?_
      refine m_geta (t := 0) (k := 2600) rfl rfl ?_
      refine w_iload_n rfl rfl ?_
      refine m_ald rfl (f := 48) (k := 2600) rfl g1 ?_
      refine m_call (as := [vi (s7.2 48 a1)]) (r := []) rfl rfl rfl rfl rfl rfl (wc_mono H (Nat.le_refl _) ?_)
      rintro _ s8 ⟨rfl, H⟩
      show wm iv L h0 (d + 1) 145 134 [lr 307, li a1] [] s8 (qv F)
      refine w_aload_n rfl rfl ?_
      refine w_bipush (n := 32) rfl rfl rfl ?_
      refine m_call (as := [vi 32]) (r := []) rfl rfl rfl rfl rfl rfl (wc_mono H (Nat.le_refl _) ?_)
      rintro _ s9 ⟨rfl, H⟩
      show wm iv L h0 (d + 1) 145 140 [lr 307, li a1] [] s9 (qv F)
      refine w_aload_n rfl rfl ?_
      refine w_aload_n rfl rfl ?_
      refine m_geta (t := 0) (k := 2600) rfl rfl ?_
      refine w_iload_n rfl rfl ?_
      refine m_ald rfl (f := 49) (k := 2600) rfl g1 ?_
      refine m_call (as := [vi (s9.2 49 a1)]) (r := []) rfl rfl rfl rfl rfl rfl (wc_mono H (Nat.le_refl _) ?_)
      rintro _ s10 ⟨rfl, H⟩
      show wm iv L h0 (d + 1) 145 150 [lr 307, li a1] [] s10 (qv F)
      refine w_aload_n rfl rfl ?_
      refine w_bipush (n := 93) rfl rfl rfl ?_
      refine m_call (as := [vi 93]) (r := []) rfl rfl rfl rfl rfl rfl (wc_mono H (Nat.le_refl _) ?_)
      rintro _ s11 ⟨rfl, H⟩
      show wm iv L h0 (d + 1) 145 156 [lr 307, li a1] [] s11 (qv F)
      refine w_goto rfl ?_
      exact w_ret rfl rfl ⟨rfl, H⟩
    have J159 : (s.2 46 a1 = 4) → wm iv L h0 (d + 1) 145 159 [lr 307, li a1] [] s (qv F) := fun h => by
      replace H := H.2.2.2.2.1 h
      refine w_aload_n rfl rfl ?_
      refine m_geta (t := 0) (k := 400) rfl rfl ?_
      refine w_aload_n rfl rfl ?_
      refine m_get rfl rfl ?_
      refine w_iload_n rfl rfl ?_
      obtain ⟨g12, H⟩ := H
      refine m_ast rfl (f := 68) (k := 400) rfl g12 ?_
      refine w_aload_n rfl rfl ?_
      refine w_dup rfl rfl ?_
      refine m_get rfl rfl ?_
      show wm iv L h0 (d + 1) 145 174 [lr 307, li a1] [vi (s.1 69), vr 307] (ua s 68 (s.1 69) a1) (qv F)
      refine w_iconst (n := 1) rfl rfl ?_
      obtain ⟨g13, H⟩ := H
      refine w_iadd rfl g13 ?_
      refine m_put rfl rfl rfl ?_
      refine w_aload_n rfl rfl ?_
      refine w_bipush (n := 63) rfl rfl rfl ?_
      refine m_call (as := [vi 63]) (r := []) rfl rfl rfl rfl rfl rfl (wc_mono H (Nat.le_refl _) ?_)
      rintro _ s14 ⟨rfl, H⟩
      show wm iv L h0 (d + 1) 145 185 [lr 307, li a1] [] s14 (qv F)
      refine w_aload_n rfl rfl ?_
      refine w_aload_n rfl rfl ?_
      refine m_geta (t := 0) (k := 2600) rfl rfl ?_
      refine w_iload_n rfl rfl ?_
      refine m_ald rfl (f := 47) (k := 2600) rfl g1 ?_
      refine m_call (as := [vi (s14.2 47 a1)]) (r := []) rfl rfl rfl rfl rfl rfl (wc_mono H (Nat.le_refl _) ?_)
      rintro _ s15 ⟨rfl, H⟩
      show wm iv L h0 (d + 1) 145 195 [lr 307, li a1] [] s15 (qv F)
      refine w_goto rfl ?_
      exact w_ret rfl rfl ⟨rfl, H⟩
    have J198 : (s.2 46 a1 = 5) → wm iv L h0 (d + 1) 145 198 [lr 307, li a1] [] s (qv F) := fun h => by
      replace H := H.2.2.2.2.2.1 h
      refine w_aload_n rfl rfl ?_
      refine w_bipush (n := 33) rfl rfl rfl ?_
      refine m_call (as := [vi 33]) (r := []) rfl rfl rfl rfl rfl rfl (wc_mono H (Nat.le_refl _) ?_)
      rintro _ s16 ⟨rfl, H⟩
      show wm iv L h0 (d + 1) 145 204 [lr 307, li a1] [] s16 (qv F)
      refine w_aload_n rfl rfl ?_
      refine w_bipush (n := 97) rfl rfl rfl ?_
      refine w_aload_n rfl rfl ?_
      refine m_geta (t := 0) (k := 2600) rfl rfl ?_
      refine w_iload_n rfl rfl ?_
      refine m_ald rfl (f := 47) (k := 2600) rfl g1 ?_
      obtain ⟨g17, H⟩ := H
      refine w_iadd rfl g17 ?_
      refine m_call (as := [vi (97 + (s16.2 47 a1))]) (r := []) rfl rfl rfl rfl rfl rfl (wc_mono H (Nat.le_refl _) ?_)
      rintro _ s18 ⟨rfl, H⟩
      show wm iv L h0 (d + 1) 145 217 [lr 307, li a1] [] s18 (qv F)
      refine w_goto rfl ?_
      exact w_ret rfl rfl ⟨rfl, H⟩
    have J220 : (s.2 46 a1 = 6) → wm iv L h0 (d + 1) 145 220 [lr 307, li a1] [] s (qv F) := fun h => by
      replace H := H.2.2.2.2.2.2.1 h
      refine w_aload_n rfl rfl ?_
      refine w_bipush (n := 123) rfl rfl rfl ?_
      refine m_call (as := [vi 123]) (r := []) rfl rfl rfl rfl rfl rfl (wc_mono H (Nat.le_refl _) ?_)
      rintro _ s19 ⟨rfl, H⟩
      show wm iv L h0 (d + 1) 145 226 [lr 307, li a1] [] s19 (qv F)
      refine w_aload_n rfl rfl ?_
      refine w_aload_n rfl rfl ?_
      refine m_geta (t := 0) (k := 2600) rfl rfl ?_
      refine w_iload_n rfl rfl ?_
      refine m_ald rfl (f := 48) (k := 2600) rfl g1 ?_
      refine m_call (as := [vi (s19.2 48 a1)]) (r := []) rfl rfl rfl rfl rfl rfl (wc_mono H (Nat.le_refl _) ?_)
      rintro _ s20 ⟨rfl, H⟩
      show wm iv L h0 (d + 1) 145 236 [lr 307, li a1] [] s20 (qv F)
      refine w_aload_n rfl rfl ?_
      refine w_bipush (n := 125) rfl rfl rfl ?_
      refine m_call (as := [vi 125]) (r := []) rfl rfl rfl rfl rfl rfl (wc_mono H (Nat.le_refl _) ?_)
      rintro _ s21 ⟨rfl, H⟩
      show wm iv L h0 (d + 1) 145 242 [lr 307, li a1] [] s21 (qv F)
      refine w_goto rfl ?_
      exact w_ret rfl rfl ⟨rfl, H⟩
    have J245 : (s.2 46 a1 < 0 ∨ 6 < s.2 46 a1) → wm iv L h0 (d + 1) 145 245 [lr 307, li a1] [] s (qv F) := fun h => by
      replace H := H.2.2.2.2.2.2.2 h
      refine w_aload_n rfl rfl ?_
      refine w_bipush (n := 40) rfl rfl rfl ?_
      refine m_call (as := [vi 40]) (r := []) rfl rfl rfl rfl rfl rfl (wc_mono H (Nat.le_refl _) ?_)
      rintro _ s22 ⟨rfl, H⟩
      show wm iv L h0 (d + 1) 145 251 [lr 307, li a1] [] s22 (qv F)
      refine w_aload_n rfl rfl ?_
      refine w_aload_n rfl rfl ?_
      refine m_geta (t := 0) (k := 3004) rfl rfl ?_
      refine w_aload_n rfl rfl ?_
      refine m_geta (t := 0) (k := 2600) rfl rfl ?_
      refine w_iload_n rfl rfl ?_
      refine m_ald rfl (f := 47) (k := 2600) rfl g1 ?_
      obtain ⟨g23, H⟩ := H
      refine m_ald rfl (f := 9) (k := 3004) rfl g23 ?_
      refine w_static (as := [vi (s22.2 9 (s22.2 47 a1))]) (r := [vr 307]) rfl rfl rfl rfl rfl (wc_mono H (Nat.le_refl _) ?_)
      rintro _ s24 ⟨r25, rfl, H⟩
      show wm iv L h0 (d + 1) 145 266 [lr 307, li a1] [vr r25, vr 307] s24 (qv F)
      refine m_call (as := [vr r25]) (r := []) rfl rfl rfl rfl rfl rfl (wc_mono H (Nat.le_refl _) ?_)
      rintro _ s26 ⟨rfl, H⟩
      show wm iv L h0 (d + 1) 145 269 [lr 307, li a1] [] s26 (qv F)
      refine w_aload_n rfl rfl ?_
      refine w_bipush (n := 32) rfl rfl rfl ?_
      refine m_call (as := [vi 32]) (r := []) rfl rfl rfl rfl rfl rfl (wc_mono H (Nat.le_refl _) ?_)
      rintro _ s27 ⟨rfl, H⟩
      show wm iv L h0 (d + 1) 145 275 [lr 307, li a1] [] s27 (qv F)
      refine w_aload_n rfl rfl ?_
      refine w_aload_n rfl rfl ?_
      refine m_geta (t := 0) (k := 2600) rfl rfl ?_
      refine w_iload_n rfl rfl ?_
      refine m_ald rfl (f := 48) (k := 2600) rfl g1 ?_
      refine m_call (as := [vi (s27.2 48 a1)]) (r := []) rfl rfl rfl rfl rfl rfl (wc_mono H (Nat.le_refl _) ?_)
      rintro _ s28 ⟨rfl, H⟩
      show wm iv L h0 (d + 1) 145 285 [lr 307, li a1] [] s28 (qv F)
      refine w_aload_n rfl rfl ?_
      refine m_geta (t := 0) (k := 2600) rfl rfl ?_
      refine w_iload_n rfl rfl ?_
      refine m_ald rfl (f := 49) (k := 2600) rfl g1 ?_
      refine w_bipush (n := (-9)) rfl rfl rfl ?_
      refine w_icmp_eq rfl (fun h => ?_) (fun h => ?_)
      · replace H := H.1 h
        refine w_aload_n rfl rfl ?_
        refine m_geta (t := 0) (k := 3004) rfl rfl ?_
        refine w_aload_n rfl rfl ?_
        refine m_geta (t := 0) (k := 2600) rfl rfl ?_
        refine w_iload_n rfl rfl ?_
        refine m_ald rfl (f := 47) (k := 2600) rfl g1 ?_
        obtain ⟨g29, H⟩ := H
        refine m_ald rfl (f := 9) (k := 3004) rfl g29 ?_
        refine w_bipush (n := 11) rfl rfl rfl ?_
        refine w_icmp_ne rfl (fun h => ?_) (fun h => ?_)
        · replace H := H.1 h
          refine w_aload_n rfl rfl ?_
          refine w_bipush (n := 41) rfl rfl rfl ?_
          refine m_call (as := [vi 41]) (r := []) rfl rfl rfl rfl rfl rfl (wc_mono H (Nat.le_refl _) ?_)
          rintro _ s30 ⟨rfl, H⟩
          show wm iv L h0 (d + 1) 145 350 [lr 307, li a1] [] s30 (qv F)
          exact w_ret rfl rfl ⟨rfl, H⟩
        · replace H := H.2 h
          refine w_aload_n rfl rfl ?_
          refine w_bipush (n := 32) rfl rfl rfl ?_
          refine m_call (as := [vi 32]) (r := []) rfl rfl rfl rfl rfl rfl (wc_mono H (Nat.le_refl _) ?_)
          rintro _ s31 ⟨rfl, H⟩
          show wm iv L h0 (d + 1) 145 334 [lr 307, li a1] [] s31 (qv F)
          refine w_aload_n rfl rfl ?_
          refine w_aload_n rfl rfl ?_
          refine m_geta (t := 0) (k := 2600) rfl rfl ?_
          refine w_iload_n rfl rfl ?_
          refine m_ald rfl (f := 47) (k := 2600) rfl g1 ?_
          refine m_call (as := [vi (s31.2 47 a1)]) (r := []) rfl rfl rfl rfl rfl rfl (wc_mono H (Nat.le_refl _) ?_)
          rintro _ s32 ⟨rfl, H⟩
          show wm iv L h0 (d + 1) 145 344 [lr 307, li a1] [] s32 (qv F)
          refine w_aload_n rfl rfl ?_
          refine w_bipush (n := 41) rfl rfl rfl ?_
          refine m_call (as := [vi 41]) (r := []) rfl rfl rfl rfl rfl rfl (wc_mono H (Nat.le_refl _) ?_)
          rintro _ s33 ⟨rfl, H⟩
          show wm iv L h0 (d + 1) 145 350 [lr 307, li a1] [] s33 (qv F)
          exact w_ret rfl rfl ⟨rfl, H⟩
      · replace H := H.2 h
        refine w_aload_n rfl rfl ?_
        refine w_bipush (n := 32) rfl rfl rfl ?_
        refine m_call (as := [vi 32]) (r := []) rfl rfl rfl rfl rfl rfl (wc_mono H (Nat.le_refl _) ?_)
        rintro _ s34 ⟨rfl, H⟩
        show wm iv L h0 (d + 1) 145 302 [lr 307, li a1] [] s34 (qv F)
        refine w_aload_n rfl rfl ?_
        refine w_aload_n rfl rfl ?_
        refine m_geta (t := 0) (k := 2600) rfl rfl ?_
        refine w_iload_n rfl rfl ?_
        refine m_ald rfl (f := 49) (k := 2600) rfl g1 ?_
        refine m_call (as := [vi (s34.2 49 a1)]) (r := []) rfl rfl rfl rfl rfl rfl (wc_mono H (Nat.le_refl _) ?_)
        rintro _ s35 ⟨rfl, H⟩
        show wm iv L h0 (d + 1) 145 312 [lr 307, li a1] [] s35 (qv F)
        refine w_aload_n rfl rfl ?_
        refine m_geta (t := 0) (k := 3004) rfl rfl ?_
        refine w_aload_n rfl rfl ?_
        refine m_geta (t := 0) (k := 2600) rfl rfl ?_
        refine w_iload_n rfl rfl ?_
        refine m_ald rfl (f := 47) (k := 2600) rfl g1 ?_
        obtain ⟨g36, H⟩ := H
        refine m_ald rfl (f := 9) (k := 3004) rfl g36 ?_
        refine w_bipush (n := 11) rfl rfl rfl ?_
        refine w_icmp_ne rfl (fun h => ?_) (fun h => ?_)
        · replace H := H.1 h
          refine w_aload_n rfl rfl ?_
          refine w_bipush (n := 41) rfl rfl rfl ?_
          refine m_call (as := [vi 41]) (r := []) rfl rfl rfl rfl rfl rfl (wc_mono H (Nat.le_refl _) ?_)
          rintro _ s37 ⟨rfl, H⟩
          show wm iv L h0 (d + 1) 145 350 [lr 307, li a1] [] s37 (qv F)
          exact w_ret rfl rfl ⟨rfl, H⟩
        · replace H := H.2 h
          refine w_aload_n rfl rfl ?_
          refine w_bipush (n := 32) rfl rfl rfl ?_
          refine m_call (as := [vi 32]) (r := []) rfl rfl rfl rfl rfl rfl (wc_mono H (Nat.le_refl _) ?_)
          rintro _ s38 ⟨rfl, H⟩
          show wm iv L h0 (d + 1) 145 334 [lr 307, li a1] [] s38 (qv F)
          refine w_aload_n rfl rfl ?_
          refine w_aload_n rfl rfl ?_
          refine m_geta (t := 0) (k := 2600) rfl rfl ?_
          refine w_iload_n rfl rfl ?_
          refine m_ald rfl (f := 47) (k := 2600) rfl g1 ?_
          refine m_call (as := [vi (s38.2 47 a1)]) (r := []) rfl rfl rfl rfl rfl rfl (wc_mono H (Nat.le_refl _) ?_)
          rintro _ s39 ⟨rfl, H⟩
          show wm iv L h0 (d + 1) 145 344 [lr 307, li a1] [] s39 (qv F)
          refine w_aload_n rfl rfl ?_
          refine w_bipush (n := 41) rfl rfl rfl ?_
          refine m_call (as := [vi 41]) (r := []) rfl rfl rfl rfl rfl rfl (wc_mono H (Nat.le_refl _) ?_)
          rintro _ s40 ⟨rfl, H⟩
          show wm iv L h0 (d + 1) 145 350 [lr 307, li a1] [] s40 (qv F)
          exact w_ret rfl rfl ⟨rfl, H⟩
    refine w_tsw (td := 245) (ts := [60, 73, 99, 118, 159, 198, 220]) rfl rfl rfl rfl rfl rfl (fun h => J245 (by omega)) ?_
    exact swA_c (fun h => J60 (by omega)) (swA_c (fun h => J73 (by omega)) (swA_c (fun h => J99 (by omega)) (swA_c (fun h => J118 (by omega)) (swA_c (fun h => J159 (by omega)) (swA_c (fun h => J198 (by omega)) (swA_c (fun h => J220 (by omega)) (swA_n)))))))
  · replace H := H.2 h
    exact w_ret rfl rfl ⟨rfl, H⟩

/-- HoleDeskModel.write1(I)V -/
theorem B146 {iv : List (Int × Int)} {L : Nat} {h0 : MH} {d : Nat} {s : SM} {a1 : Int} {F : SM → Prop} (H : cm iv L h0 d 145 [vr 307, vi a1] (us (us s 67 0) 69 0) (qv fun s1 => F s1)) : cm iv L h0 (d + 1) 146 [vr 307, vi a1] s (qv F) := by
  show wm iv L h0 (d + 1) 146 0 [lr 307, li a1] [] s (qv F)
  refine w_aload_n rfl rfl ?_
  refine w_iconst (n := 0) rfl rfl ?_
  refine m_put rfl rfl rfl ?_
  refine w_aload_n rfl rfl ?_
  refine w_iconst (n := 0) rfl rfl ?_
  refine m_put rfl rfl rfl ?_
  refine w_aload_n rfl rfl ?_
  refine w_iload_n rfl rfl ?_
  refine m_call (as := [vi a1]) (r := []) rfl rfl rfl rfl rfl rfl (wc_mono H (Nat.le_refl _) ?_)
  rintro _ s1 ⟨rfl, H⟩
  show wm iv L h0 (d + 1) 146 15 [lr 307, li a1] [] s1 (qv F)
  exact w_ret rfl rfl ⟨rfl, H⟩

/-- HoleDeskModel.hasValue()Z -/
theorem B147 {iv : List (Int × Int)} {L : Nat} {h0 : MH} {d : Nat} {s : SM} {F : Int → SM → Prop} (H : ((s.1 61 = 0 → F 1 s) ∧ (s.1 61 ≠ 0 → ((s.1 61 ≠ 1 → F 0 s) ∧ (s.1 61 = 1 → F 1 s))))) : cm iv L h0 d 147 [vr 307] s (qi F) := by
  show wm iv L h0 d 147 0 [lr 307] [] s (qi F)
  refine w_aload_n rfl rfl ?_
  refine m_get rfl rfl ?_
  refine w_if_eq rfl (fun h => ?_) (fun h => ?_)
  · replace H := H.1 h
    refine w_iconst (n := 1) rfl rfl ?_
    refine w_goto rfl ?_
    exact w_iretz rfl rfl (by decide) ⟨_, rfl, H⟩
  · replace H := H.2 h
    refine w_aload_n rfl rfl ?_
    refine m_get rfl rfl ?_
    refine w_iconst (n := 1) rfl rfl ?_
    refine w_icmp_ne rfl (fun h => ?_) (fun h => ?_)
    · replace H := H.1 h
      refine w_iconst (n := 0) rfl rfl ?_
      exact w_iretz rfl rfl (by decide) ⟨_, rfl, H⟩
    · replace H := H.2 h
      refine w_iconst (n := 1) rfl rfl ?_
      refine w_goto rfl ?_
      exact w_iretz rfl rfl (by decide) ⟨_, rfl, H⟩

/-- HoleDeskModel.value(I)I -/
theorem B148 {iv : List (Int × Int)} {L : Nat} {h0 : MH} {d : Nat} {s : SM} {a1 : Int} {F : Int → SM → Prop} (H : cm iv L h0 d 147 [vr 307] s (qi fun r2 s1 => ((r2 ≠ 0 → cm iv L h0 d 146 [vr 307, vi (s1.1 62)] s1 (qv fun s3 => ((a1 ≠ (-1) → (-2147483648 ≤ (s3.1 67) - 1 ∧ (s3.1 67) - 1 ≤ 2147483647) ∧ ((0 ≤ a1 ∧ a1 ≤ (s3.1 67) - 1 → (0 ≤ a1 ∧ a1 < 400) ∧ F (s3.2 66 a1) s3) ∧ (a1 < 0 ∨ (s3.1 67) - 1 < a1 → F (-9) s3))) ∧ (a1 = (-1) → F (s3.1 67) s3)))) ∧ (r2 = 0 → F (-9) s1)))) : cm iv L h0 (d + 1) 148 [vr 307, vi a1] s (qi F) := by
  show wm iv L h0 (d + 1) 148 0 [lr 307, li a1] [] s (qi F)
  refine w_aload_n rfl rfl ?_
  refine m_call (as := []) (r := []) rfl rfl rfl rfl rfl rfl (wc_mono H (Nat.le_refl _) ?_)
  rintro _ s1 ⟨r2, rfl, H⟩
  show wm iv L h0 (d + 1) 148 4 [lr 307, li a1] [vi r2] s1 (qi F)
  refine w_if_ne rfl (fun h => ?_) (fun h => ?_)
  · replace H := H.1 h
    refine w_aload_n rfl rfl ?_
    refine w_aload_n rfl rfl ?_
    refine m_get rfl rfl ?_
    refine m_call (as := [vi (s1.1 62)]) (r := []) rfl rfl rfl rfl rfl rfl (wc_mono H (Nat.le_refl _) ?_)
    rintro _ s3 ⟨rfl, H⟩
    show wm iv L h0 (d + 1) 148 18 [lr 307, li a1] [] s3 (qi F)
    refine w_iload_n rfl rfl ?_
    refine w_iconst (n := (-1)) rfl rfl ?_
    refine w_icmp_ne rfl (fun h => ?_) (fun h => ?_)
    · replace H := H.1 h
      refine w_iload_n rfl rfl ?_
      refine w_iconst (n := 0) rfl rfl ?_
      refine w_aload_n rfl rfl ?_
      refine m_get rfl rfl ?_
      refine w_iconst (n := 1) rfl rfl ?_
      obtain ⟨g4, H⟩ := H
      refine w_isub rfl g4 ?_
      refine w_static (as := [vi a1, vi 0, vi ((s3.1 67) - 1)]) (r := []) rfl rfl rfl rfl rfl (m_in (fun h => ?_) (fun h => ?_))
      · show wm iv L h0 (d + 1) 148 41 [lr 307, li a1] [vi 1] s3 (qi F)
        replace H := H.1 h
        refine w_if_eq rfl (fun h => absurd h (by decide)) (fun _ => ?_)
        refine w_aload_n rfl rfl ?_
        refine m_geta (t := 1) (k := 400) rfl rfl ?_
        refine w_iload_n rfl rfl ?_
        obtain ⟨g5, H⟩ := H
        refine m_bald (t := 1) rfl (f := 66) (k := 400) rfl g5 ?_
        refine w_goto rfl ?_
        exact w_iret rfl rfl ⟨_, rfl, H⟩
      · show wm iv L h0 (d + 1) 148 41 [lr 307, li a1] [vi 0] s3 (qi F)
        replace H := H.2 h
        refine w_if_eq rfl (fun _ => ?_) (fun h => absurd h (by decide))
        refine w_bipush (n := (-9)) rfl rfl rfl ?_
        exact w_iret rfl rfl ⟨_, rfl, H⟩
    · replace H := H.2 h
      refine w_aload_n rfl rfl ?_
      refine m_get rfl rfl ?_
      refine w_goto rfl ?_
      exact w_iret rfl rfl ⟨_, rfl, H⟩
  · replace H := H.2 h
    refine w_bipush (n := (-9)) rfl rfl rfl ?_
    exact w_iret rfl rfl ⟨_, rfl, H⟩

/-- HoleDeskModel.left(I)I -/
theorem B149 {iv : List (Int × Int)} {L : Nat} {h0 : MH} {d : Nat} {s : SM} {a1 : Int} {F : Int → SM → Prop} (H : cm iv L h0 d 147 [vr 307] s (qi fun r2 s1 => ((r2 ≠ 0 → cm iv L h0 d 146 [vr 307, vi (s1.1 62)] s1 (qv fun s3 => (-2147483648 ≤ (s3.1 69) - 1 ∧ (s3.1 69) - 1 ≤ 2147483647) ∧ ((0 ≤ a1 ∧ a1 ≤ (s3.1 69) - 1 → (0 ≤ a1 ∧ a1 < 400) ∧ (0 ≤ s3.2 68 a1 ∧ s3.2 68 a1 < 2600) ∧ F (s3.2 47 (s3.2 68 a1)) s3) ∧ (a1 < 0 ∨ (s3.1 69) - 1 < a1 → F (-9) s3)))) ∧ (r2 = 0 → F (-9) s1)))) : cm iv L h0 (d + 1) 149 [vr 307, vi a1] s (qi F) := by
  show wm iv L h0 (d + 1) 149 0 [lr 307, li a1] [] s (qi F)
  refine w_aload_n rfl rfl ?_
  refine m_call (as := []) (r := []) rfl rfl rfl rfl rfl rfl (wc_mono H (Nat.le_refl _) ?_)
  rintro _ s1 ⟨r2, rfl, H⟩
  show wm iv L h0 (d + 1) 149 4 [lr 307, li a1] [vi r2] s1 (qi F)
  refine w_if_ne rfl (fun h => ?_) (fun h => ?_)
  · replace H := H.1 h
    refine w_aload_n rfl rfl ?_
    refine w_aload_n rfl rfl ?_
    refine m_get rfl rfl ?_
    refine m_call (as := [vi (s1.1 62)]) (r := []) rfl rfl rfl rfl rfl rfl (wc_mono H (Nat.le_refl _) ?_)
    rintro _ s3 ⟨rfl, H⟩
    show wm iv L h0 (d + 1) 149 18 [lr 307, li a1] [] s3 (qi F)
    refine w_iload_n rfl rfl ?_
    refine w_iconst (n := 0) rfl rfl ?_
    refine w_aload_n rfl rfl ?_
    refine m_get rfl rfl ?_
    refine w_iconst (n := 1) rfl rfl ?_
    obtain ⟨g4, H⟩ := H
    refine w_isub rfl g4 ?_
    refine w_static (as := [vi a1, vi 0, vi ((s3.1 69) - 1)]) (r := []) rfl rfl rfl rfl rfl (m_in (fun h => ?_) (fun h => ?_))
    · show wm iv L h0 (d + 1) 149 29 [lr 307, li a1] [vi 1] s3 (qi F)
      replace H := H.1 h
      refine w_if_eq rfl (fun h => absurd h (by decide)) (fun _ => ?_)
      refine w_aload_n rfl rfl ?_
      refine m_geta (t := 0) (k := 2600) rfl rfl ?_
      refine w_aload_n rfl rfl ?_
      refine m_geta (t := 0) (k := 400) rfl rfl ?_
      refine w_iload_n rfl rfl ?_
      obtain ⟨g5, H⟩ := H
      refine m_ald rfl (f := 68) (k := 400) rfl g5 ?_
      obtain ⟨g6, H⟩ := H
      refine m_ald rfl (f := 47) (k := 2600) rfl g6 ?_
      refine w_goto rfl ?_
      exact w_iret rfl rfl ⟨_, rfl, H⟩
    · show wm iv L h0 (d + 1) 149 29 [lr 307, li a1] [vi 0] s3 (qi F)
      replace H := H.2 h
      refine w_if_eq rfl (fun _ => ?_) (fun h => absurd h (by decide))
      refine w_bipush (n := (-9)) rfl rfl rfl ?_
      exact w_iret rfl rfl ⟨_, rfl, H⟩
  · replace H := H.2 h
    refine w_bipush (n := (-9)) rfl rfl rfl ?_
    exact w_iret rfl rfl ⟨_, rfl, H⟩

/-- HoleDeskModel.seen(III)I -/
theorem B150 {iv : List (Int × Int)} {L : Nat} {h0 : MH} {d : Nat} {s : SM} {a1 : Int} {a2 : Int} {a3 : Int} {F : Int → SM → Prop} (H : ((0 ≤ a2 ∧ a2 ≤ 25 → cm iv L h0 d 147 [vr 307] s (qi fun r2 s1 => ((r2 ≠ 0 → cm iv L h0 d 146 [vr 307, vi (s1.1 62)] s1 (qv fun s3 => (-2147483648 ≤ (s3.1 69) - 1 ∧ (s3.1 69) - 1 ≤ 2147483647) ∧ ((0 ≤ a1 ∧ a1 ≤ (s3.1 69) - 1 → (0 ≤ a1 ∧ a1 < 400) ∧ (0 ≤ s3.2 68 a1 ∧ s3.2 68 a1 < 2600) ∧ (-2147483648 ≤ 26 * (s3.2 50 (s3.2 68 a1)) ∧ 26 * (s3.2 50 (s3.2 68 a1)) ≤ 2147483647) ∧ (-2147483648 ≤ (26 * (s3.2 50 (s3.2 68 a1))) + a2 ∧ (26 * (s3.2 50 (s3.2 68 a1))) + a2 ≤ 2147483647) ∧ (0 ≤ (26 * (s3.2 50 (s3.2 68 a1))) + a2 ∧ (26 * (s3.2 50 (s3.2 68 a1))) + a2 < 33280) ∧ ((s3.2 53 ((26 * (s3.2 50 (s3.2 68 a1))) + a2) ≠ (-9) → cm iv L h0 d 146 [vr 307, vi (s3.2 53 ((26 * (s3.2 50 (s3.2 68 a1))) + a2))] s3 (qv fun s10 => ((a3 ≠ (-1) → (-2147483648 ≤ (s10.1 67) - 1 ∧ (s10.1 67) - 1 ≤ 2147483647) ∧ ((0 ≤ a3 ∧ a3 ≤ (s10.1 67) - 1 → (0 ≤ a3 ∧ a3 < 400) ∧ F (s10.2 66 a3) s10) ∧ (a3 < 0 ∨ (s10.1 67) - 1 < a3 → F (-9) s10))) ∧ (a3 = (-1) → F (s10.1 67) s10)))) ∧ (s3.2 53 ((26 * (s3.2 50 (s3.2 68 a1))) + a2) = (-9) → F (-9) s3))) ∧ (a1 < 0 ∨ (s3.1 69) - 1 < a1 → F (-9) s3)))) ∧ (r2 = 0 → F (-9) s1)))) ∧ (a2 < 0 ∨ 25 < a2 → F (-1) s))) : cm iv L h0 (d + 1) 150 [vr 307, vi a1, vi a2, vi a3] s (qi F) := by
  show wm iv L h0 (d + 1) 150 0 [lr 307, li a1, li a2, li a3] [] s (qi F)
  refine w_iload_n rfl rfl ?_
  refine w_iconst (n := 0) rfl rfl ?_
  refine w_bipush (n := 25) rfl rfl rfl ?_
  refine w_static (as := [vi a2, vi 0, vi 25]) (r := []) rfl rfl rfl rfl rfl (m_in (fun h => ?_) (fun h => ?_))
  · show wm iv L h0 (d + 1) 150 7 [lr 307, li a1, li a2, li a3] [vi 1] s (qi F)
    replace H := H.1 h
    refine w_if_ne rfl (fun _ => ?_) (fun h => absurd h (by decide))
    refine w_aload_n rfl rfl ?_
    refine m_call (as := []) (r := []) rfl rfl rfl rfl rfl rfl (wc_mono H (Nat.le_refl _) ?_)
    rintro _ s1 ⟨r2, rfl, H⟩
    show wm iv L h0 (d + 1) 150 16 [lr 307, li a1, li a2, li a3] [vi r2] s1 (qi F)
    refine w_if_ne rfl (fun h => ?_) (fun h => ?_)
    · replace H := H.1 h
      refine w_aload_n rfl rfl ?_
      refine w_aload_n rfl rfl ?_
      refine m_get rfl rfl ?_
      refine m_call (as := [vi (s1.1 62)]) (r := []) rfl rfl rfl rfl rfl rfl (wc_mono H (Nat.le_refl _) ?_)
      rintro _ s3 ⟨rfl, H⟩
      show wm iv L h0 (d + 1) 150 30 [lr 307, li a1, li a2, li a3] [] s3 (qi F)
      refine w_iload_n rfl rfl ?_
      refine w_iconst (n := 0) rfl rfl ?_
      refine w_aload_n rfl rfl ?_
      refine m_get rfl rfl ?_
      refine w_iconst (n := 1) rfl rfl ?_
      obtain ⟨g4, H⟩ := H
      refine w_isub rfl g4 ?_
      refine w_static (as := [vi a1, vi 0, vi ((s3.1 69) - 1)]) (r := []) rfl rfl rfl rfl rfl (m_in (fun h => ?_) (fun h => ?_))
      · show wm iv L h0 (d + 1) 150 41 [lr 307, li a1, li a2, li a3] [vi 1] s3 (qi F)
        replace H := H.1 h
        refine w_if_ne rfl (fun _ => ?_) (fun h => absurd h (by decide))
        refine w_aload_n rfl rfl ?_
        refine m_geta (t := 0) (k := 33280) rfl rfl ?_
        refine w_bipush (n := 26) rfl rfl rfl ?_
        refine w_aload_n rfl rfl ?_
        refine m_geta (t := 0) (k := 2600) rfl rfl ?_
        refine w_aload_n rfl rfl ?_
        refine m_geta (t := 0) (k := 400) rfl rfl ?_
        refine w_iload_n rfl rfl ?_
        obtain ⟨g5, H⟩ := H
        refine m_ald rfl (f := 68) (k := 400) rfl g5 ?_
        obtain ⟨g6, H⟩ := H
        refine m_ald rfl (f := 50) (k := 2600) rfl g6 ?_
        obtain ⟨g7, H⟩ := H
        refine w_imul rfl g7 ?_
        refine w_iload_n rfl rfl ?_
        obtain ⟨g8, H⟩ := H
        refine w_iadd rfl g8 ?_
        obtain ⟨g9, H⟩ := H
        refine m_ald rfl (f := 53) (k := 33280) rfl g9 ?_
        refine w_istore rfl rfl ?_
        refine w_iload rfl rfl ?_
        refine w_bipush (n := (-9)) rfl rfl rfl ?_
        refine w_icmp_ne rfl (fun h => ?_) (fun h => ?_)
        · replace H := H.1 h
          refine w_aload_n rfl rfl ?_
          refine w_iload rfl rfl ?_
          refine m_call (as := [vi (s3.2 53 ((26 * (s3.2 50 (s3.2 68 a1))) + a2))]) (r := []) rfl rfl rfl rfl rfl rfl (wc_mono H (Nat.le_refl _) ?_)
          rintro _ s10 ⟨rfl, H⟩
          show wm iv L h0 (d + 1) 150 86 [lr 307, li a1, li a2, li a3, li (s3.2 53 ((26 * (s3.2 50 (s3.2 68 a1))) + a2))] [] s10 (qi F)
          refine w_iload_n rfl rfl ?_
          refine w_iconst (n := (-1)) rfl rfl ?_
          refine w_icmp_ne rfl (fun h => ?_) (fun h => ?_)
          · replace H := H.1 h
            refine w_iload_n rfl rfl ?_
            refine w_iconst (n := 0) rfl rfl ?_
            refine w_aload_n rfl rfl ?_
            refine m_get rfl rfl ?_
            refine w_iconst (n := 1) rfl rfl ?_
            obtain ⟨g11, H⟩ := H
            refine w_isub rfl g11 ?_
            refine w_static (as := [vi a3, vi 0, vi ((s10.1 67) - 1)]) (r := []) rfl rfl rfl rfl rfl (m_in (fun h => ?_) (fun h => ?_))
            · show wm iv L h0 (d + 1) 150 109 [lr 307, li a1, li a2, li a3, li (s3.2 53 ((26 * (s3.2 50 (s3.2 68 a1))) + a2))] [vi 1] s10 (qi F)
              replace H := H.1 h
              refine w_if_eq rfl (fun h => absurd h (by decide)) (fun _ => ?_)
              refine w_aload_n rfl rfl ?_
              refine m_geta (t := 1) (k := 400) rfl rfl ?_
              refine w_iload_n rfl rfl ?_
              obtain ⟨g12, H⟩ := H
              refine m_bald (t := 1) rfl (f := 66) (k := 400) rfl g12 ?_
              refine w_goto rfl ?_
              exact w_iret rfl rfl ⟨_, rfl, H⟩
            · show wm iv L h0 (d + 1) 150 109 [lr 307, li a1, li a2, li a3, li (s3.2 53 ((26 * (s3.2 50 (s3.2 68 a1))) + a2))] [vi 0] s10 (qi F)
              replace H := H.2 h
              refine w_if_eq rfl (fun _ => ?_) (fun h => absurd h (by decide))
              refine w_bipush (n := (-9)) rfl rfl rfl ?_
              exact w_iret rfl rfl ⟨_, rfl, H⟩
          · replace H := H.2 h
            refine w_aload_n rfl rfl ?_
            refine m_get rfl rfl ?_
            refine w_goto rfl ?_
            exact w_iret rfl rfl ⟨_, rfl, H⟩
        · replace H := H.2 h
          refine w_bipush (n := (-9)) rfl rfl rfl ?_
          exact w_iret rfl rfl ⟨_, rfl, H⟩
      · show wm iv L h0 (d + 1) 150 41 [lr 307, li a1, li a2, li a3] [vi 0] s3 (qi F)
        replace H := H.2 h
        refine w_if_ne rfl (fun h => absurd h (by decide)) (fun _ => ?_)
        refine w_bipush (n := (-9)) rfl rfl rfl ?_
        exact w_iret rfl rfl ⟨_, rfl, H⟩
    · replace H := H.2 h
      refine w_bipush (n := (-9)) rfl rfl rfl ?_
      exact w_iret rfl rfl ⟨_, rfl, H⟩
  · show wm iv L h0 (d + 1) 150 7 [lr 307, li a1, li a2, li a3] [vi 0] s (qi F)
    replace H := H.2 h
    refine w_if_ne rfl (fun h => absurd h (by decide)) (fun _ => ?_)
    refine w_iconst (n := (-1)) rfl rfl ?_
    exact w_iret rfl rfl ⟨_, rfl, H⟩

/-- HoleDeskModel.box(I)I -/
theorem B151 {iv : List (Int × Int)} {L : Nat} {h0 : MH} {d : Nat} {s : SM} {a1 : Int} {F : Int → SM → Prop} (H : ((a1 ≤ 8 → ((0 ≤ a1 → wm iv L h0 (d + 1) 151 25 [lr 307, li a1, li 0] [] (us s 71 a1) (qi F)) ∧ (a1 < 0 → cm iv L h0 d 61 [vr 307, vi 5] s (qi fun r2 s1 => F r2 s1)))) ∧ (8 < a1 → F (-1) s))) : cm iv L h0 (d + 1) 151 [vr 307, vi a1] s (qi F) := by
  show wm iv L h0 (d + 1) 151 0 [lr 307, li a1] [] s (qi F)
  refine w_iload_n rfl rfl ?_
  refine w_bipush (n := 8) rfl rfl rfl ?_
  refine w_icmp_le rfl (fun h => ?_) (fun h => ?_)
  · replace H := H.1 h
    refine w_iload_n rfl rfl ?_
    refine w_if_ge rfl (fun h => ?_) (fun h => ?_)
    · replace H := H.1 h
      refine w_aload_n rfl rfl ?_
      refine w_iload_n rfl rfl ?_
      refine m_put rfl rfl rfl ?_
      refine w_iconst (n := 0) rfl rfl ?_
      refine w_istore_n rfl rfl ?_
      exact wp_ls (sl_s (sl_s (sl_s (sl_0)))) H
    · replace H := H.2 h
      refine w_aload_n rfl rfl ?_
      refine w_iconst (n := 5) rfl rfl ?_
      refine m_call (as := [vi 5]) (r := []) rfl rfl rfl rfl rfl rfl (wc_mono H (Nat.le_refl _) ?_)
      rintro _ s1 ⟨r2, rfl, H⟩
      show wm iv L h0 (d + 1) 151 17 [lr 307, li a1] [vi r2] s1 (qi F)
      exact w_iret rfl rfl ⟨_, rfl, H⟩
  · replace H := H.2 h
    refine w_iconst (n := (-1)) rfl rfl ?_
    exact w_iret rfl rfl ⟨_, rfl, H⟩

/-- HoleDeskModel.box(I)I at 25 -/
theorem B151_25 {iv : List (Int × Int)} {L : Nat} {h0 : MH} {d : Nat} {s : SM} {l1 : Int} {l2 : Int} {F : Int → SM → Prop} (H : ((8 ≤ l2 → F l1 s) ∧ (l2 < 8 → (0 ≤ l2 ∧ l2 < 8) ∧ (-2147483648 ≤ l2 + 1 ∧ l2 + 1 ≤ 2147483647) ∧ wm iv L h0 (d + 1) 151 25 [lr 307, li l1, li (l2 + 1)] [] (ua s 72 l2 0) (qi F)))) : wm iv L h0 (d + 1) 151 25 [lr 307, li l1, li l2] [] s (qi F) := by
  refine w_iload_n rfl rfl ?_
  refine w_bipush (n := 8) rfl rfl rfl ?_
  refine w_icmp_ge rfl (fun h => ?_) (fun h => ?_)
  · replace H := H.1 h
    refine w_iload_n rfl rfl ?_
    exact w_iret rfl rfl ⟨_, rfl, H⟩
  · replace H := H.2 h
    refine w_aload_n rfl rfl ?_
    refine m_geta (t := 0) (k := 8) rfl rfl ?_
    refine w_iload_n rfl rfl ?_
    refine w_iconst (n := 0) rfl rfl ?_
    obtain ⟨g1, H⟩ := H
    refine m_ast rfl (f := 72) (k := 8) rfl g1 ?_
    obtain ⟨g2, H⟩ := H
    refine w_iinc rfl rfl rfl g2 ?_
    refine w_goto rfl ?_
    exact wp_ls (sl_s (sl_s (sl_s (sl_0)))) H

/-- HoleDeskModel.keep(II)I -/
theorem B152 {iv : List (Int × Int)} {L : Nat} {h0 : MH} {d : Nat} {s : SM} {a1 : Int} {a2 : Int} {F : Int → SM → Prop} (H : cm iv L h0 d 80 [vr 307, vi a2] s (qi fun r2 s1 => ((r2 ≠ 0 → (-2147483648 ≤ (s1.1 71) - 1 ∧ (s1.1 71) - 1 ≤ 2147483647) ∧ ((0 ≤ a1 ∧ a1 ≤ (s1.1 71) - 1 → (-2147483648 ≤ a2 + 1 ∧ a2 + 1 ≤ 2147483647) ∧ (0 ≤ a1 ∧ a1 < 8) ∧ F 1 (ua s1 72 a1 (a2 + 1))) ∧ (a1 < 0 ∨ (s1.1 71) - 1 < a1 → cm iv L h0 d 61 [vr 307, vi 2] s1 (qi fun r7 s6 => F r7 s6)))) ∧ (r2 = 0 → F (-1) s1)))) : cm iv L h0 (d + 1) 152 [vr 307, vi a1, vi a2] s (qi F) := by
  show wm iv L h0 (d + 1) 152 0 [lr 307, li a1, li a2] [] s (qi F)
  refine w_aload_n rfl rfl ?_
  refine w_iload_n rfl rfl ?_
  refine m_call (as := [vi a2]) (r := []) rfl rfl rfl rfl rfl rfl (wc_mono H (Nat.le_refl _) ?_)
  rintro _ s1 ⟨r2, rfl, H⟩
  show wm iv L h0 (d + 1) 152 5 [lr 307, li a1, li a2] [vi r2] s1 (qi F)
  refine w_if_ne rfl (fun h => ?_) (fun h => ?_)
  · replace H := H.1 h
    refine w_iload_n rfl rfl ?_
    refine w_iconst (n := 0) rfl rfl ?_
    refine w_aload_n rfl rfl ?_
    refine m_get rfl rfl ?_
    refine w_iconst (n := 1) rfl rfl ?_
    obtain ⟨g3, H⟩ := H
    refine w_isub rfl g3 ?_
    refine w_static (as := [vi a1, vi 0, vi ((s1.1 71) - 1)]) (r := []) rfl rfl rfl rfl rfl (m_in (fun h => ?_) (fun h => ?_))
    · show wm iv L h0 (d + 1) 152 21 [lr 307, li a1, li a2] [vi 1] s1 (qi F)
      replace H := H.1 h
      refine w_if_ne rfl (fun _ => ?_) (fun h => absurd h (by decide))
      refine w_aload_n rfl rfl ?_
      refine m_geta (t := 0) (k := 8) rfl rfl ?_
      refine w_iload_n rfl rfl ?_
      refine w_iload_n rfl rfl ?_
      refine w_iconst (n := 1) rfl rfl ?_
      obtain ⟨g4, H⟩ := H
      refine w_iadd rfl g4 ?_
      obtain ⟨g5, H⟩ := H
      refine m_ast rfl (f := 72) (k := 8) rfl g5 ?_
      refine w_iconst (n := 1) rfl rfl ?_
      exact w_iret rfl rfl ⟨_, rfl, H⟩
    · show wm iv L h0 (d + 1) 152 21 [lr 307, li a1, li a2] [vi 0] s1 (qi F)
      replace H := H.2 h
      refine w_if_ne rfl (fun h => absurd h (by decide)) (fun _ => ?_)
      refine w_aload_n rfl rfl ?_
      refine w_iconst (n := 2) rfl rfl ?_
      refine m_call (as := [vi 2]) (r := []) rfl rfl rfl rfl rfl rfl (wc_mono H (Nat.le_refl _) ?_)
      rintro _ s6 ⟨r7, rfl, H⟩
      show wm iv L h0 (d + 1) 152 29 [lr 307, li a1, li a2] [vi r7] s6 (qi F)
      exact w_iret rfl rfl ⟨_, rfl, H⟩
  · replace H := H.2 h
    refine w_iconst (n := (-1)) rfl rfl ?_
    exact w_iret rfl rfl ⟨_, rfl, H⟩

/-- HoleDeskModel.lacks(II)I -/
theorem B153 {iv : List (Int × Int)} {L : Nat} {h0 : MH} {d : Nat} {s : SM} {a1 : Int} {a2 : Int} {F : Int → SM → Prop} (H : (-2147483648 ≤ (s.1 71) - 1 ∧ (s.1 71) - 1 ≤ 2147483647) ∧ ((0 ≤ a1 ∧ a1 ≤ (s.1 71) - 1 → (0 ≤ a1 ∧ a1 < 8) ∧ ((s.2 72 a1 ≠ 0 → (-2147483648 ≤ (s.2 72 a1) - 1 ∧ (s.2 72 a1) - 1 ≤ 2147483647) ∧ (0 ≤ (s.2 72 a1) - 1 ∧ (s.2 72 a1) - 1 < 3004) ∧ ((s.2 9 ((s.2 72 a1) - 1) = a2 → F 0 s) ∧ (s.2 9 ((s.2 72 a1) - 1) ≠ a2 → F 3 s))) ∧ (s.2 72 a1 = 0 → F 1 s))) ∧ (a1 < 0 ∨ (s.1 71) - 1 < a1 → F 2 s))) : cm iv L h0 (d + 1) 153 [vr 307, vi a1, vi a2] s (qi F) := by
  show wm iv L h0 (d + 1) 153 0 [lr 307, li a1, li a2] [] s (qi F)
  refine w_iload_n rfl rfl ?_
  refine w_iconst (n := 0) rfl rfl ?_
  refine w_aload_n rfl rfl ?_
  refine m_get rfl rfl ?_
  refine w_iconst (n := 1) rfl rfl ?_
  obtain ⟨g1, H⟩ := H
  refine w_isub rfl g1 ?_
  refine w_static (as := [vi a1, vi 0, vi ((s.1 71) - 1)]) (r := []) rfl rfl rfl rfl rfl (m_in (fun h => ?_) (fun h => ?_))
  · show wm iv L h0 (d + 1) 153 11 [lr 307, li a1, li a2] [vi 1] s (qi F)
    replace H := H.1 h
    refine w_if_ne rfl (fun _ => ?_) (fun h => absurd h (by decide))
    refine w_aload_n rfl rfl ?_
    refine m_geta (t := 0) (k := 8) rfl rfl ?_
    refine w_iload_n rfl rfl ?_
    obtain ⟨g2, H⟩ := H
    refine m_ald rfl (f := 72) (k := 8) rfl g2 ?_
    refine w_if_ne rfl (fun h => ?_) (fun h => ?_)
    · replace H := H.1 h
      refine w_aload_n rfl rfl ?_
      refine m_geta (t := 0) (k := 3004) rfl rfl ?_
      refine w_aload_n rfl rfl ?_
      refine m_geta (t := 0) (k := 8) rfl rfl ?_
      refine w_iload_n rfl rfl ?_
      refine m_ald rfl (f := 72) (k := 8) rfl g2 ?_
      refine w_iconst (n := 1) rfl rfl ?_
      obtain ⟨g3, H⟩ := H
      refine w_isub rfl g3 ?_
      obtain ⟨g4, H⟩ := H
      refine m_ald rfl (f := 9) (k := 3004) rfl g4 ?_
      refine w_iload_n rfl rfl ?_
      refine w_icmp_eq rfl (fun h => ?_) (fun h => ?_)
      · replace H := H.1 h
        refine w_iconst (n := 0) rfl rfl ?_
        exact w_iret rfl rfl ⟨_, rfl, H⟩
      · replace H := H.2 h
        refine w_iconst (n := 3) rfl rfl ?_
        refine w_goto rfl ?_
        exact w_iret rfl rfl ⟨_, rfl, H⟩
    · replace H := H.2 h
      refine w_iconst (n := 1) rfl rfl ?_
      refine w_goto rfl ?_
      exact w_iret rfl rfl ⟨_, rfl, H⟩
  · show wm iv L h0 (d + 1) 153 11 [lr 307, li a1, li a2] [vi 0] s (qi F)
    replace H := H.2 h
    refine w_if_ne rfl (fun h => absurd h (by decide)) (fun _ => ?_)
    refine w_iconst (n := 2) rfl rfl ?_
    refine w_goto rfl ?_
    exact w_iret rfl rfl ⟨_, rfl, H⟩

/-- HoleDeskModel.boxed(II)I -/
theorem B154 {iv : List (Int × Int)} {L : Nat} {h0 : MH} {d : Nat} {s : SM} {a1 : Int} {a2 : Int} {F : Int → SM → Prop} (H : ((a2 = 1 → cm iv L h0 d 153 [vr 307, vi a1, vi a2] s (qi fun r2 s1 => ((r2 ≤ 0 → (0 ≤ a1 ∧ a1 < 8) ∧ (-2147483648 ≤ (s1.2 72 a1) - 1 ∧ (s1.2 72 a1) - 1 ≤ 2147483647) ∧ (0 ≤ (s1.2 72 a1) - 1 ∧ (s1.2 72 a1) - 1 < 3004) ∧ F 1 (us s1 73 (s1.2 10 ((s1.2 72 a1) - 1)))) ∧ (0 < r2 → cm iv L h0 d 61 [vr 307, vi r2] s1 (qi fun r7 s6 => F r7 s6))))) ∧ (a2 ≠ 1 → ((a2 = 3 → cm iv L h0 d 153 [vr 307, vi a1, vi a2] s (qi fun r9 s8 => ((r9 ≤ 0 → (0 ≤ a1 ∧ a1 < 8) ∧ (-2147483648 ≤ (s8.2 72 a1) - 1 ∧ (s8.2 72 a1) - 1 ≤ 2147483647) ∧ (0 ≤ (s8.2 72 a1) - 1 ∧ (s8.2 72 a1) - 1 < 3004) ∧ F 1 (us s8 73 (s8.2 10 ((s8.2 72 a1) - 1)))) ∧ (0 < r9 → cm iv L h0 d 61 [vr 307, vi r9] s8 (qi fun r14 s13 => F r14 s13))))) ∧ (a2 ≠ 3 → F (-1) s))))) : cm iv L h0 (d + 1) 154 [vr 307, vi a1, vi a2] s (qi F) := by
  show wm iv L h0 (d + 1) 154 0 [lr 307, li a1, li a2] [] s (qi F)
  refine w_iload_n rfl rfl ?_
  refine w_iconst (n := 1) rfl rfl ?_
  refine w_icmp_eq rfl (fun h => ?_) (fun h => ?_)
  · replace H := H.1 h
    refine w_aload_n rfl rfl ?_
    refine w_iload_n rfl rfl ?_
    refine w_iload_n rfl rfl ?_
    refine m_call (as := [vi a1, vi a2]) (r := []) rfl rfl rfl rfl rfl rfl (wc_mono H (Nat.le_refl _) ?_)
    rintro _ s1 ⟨r2, rfl, H⟩
    show wm iv L h0 (d + 1) 154 18 [lr 307, li a1, li a2] [vi r2] s1 (qi F)
    refine w_istore_n rfl rfl ?_
    refine w_iload_n rfl rfl ?_
    refine w_if_le rfl (fun h => ?_) (fun h => ?_)
    · replace H := H.1 h
      refine w_aload_n rfl rfl ?_
      refine w_aload_n rfl rfl ?_
      refine m_geta (t := 0) (k := 3004) rfl rfl ?_
      refine w_aload_n rfl rfl ?_
      refine m_geta (t := 0) (k := 8) rfl rfl ?_
      refine w_iload_n rfl rfl ?_
      obtain ⟨g3, H⟩ := H
      refine m_ald rfl (f := 72) (k := 8) rfl g3 ?_
      refine w_iconst (n := 1) rfl rfl ?_
      obtain ⟨g4, H⟩ := H
      refine w_isub rfl g4 ?_
      obtain ⟨g5, H⟩ := H
      refine m_ald rfl (f := 10) (k := 3004) rfl g5 ?_
      refine m_put rfl rfl rfl ?_
      refine w_iconst (n := 1) rfl rfl ?_
      exact w_iret rfl rfl ⟨_, rfl, H⟩
    · replace H := H.2 h
      refine w_aload_n rfl rfl ?_
      refine w_iload_n rfl rfl ?_
      refine m_call (as := [vi r2]) (r := []) rfl rfl rfl rfl rfl rfl (wc_mono H (Nat.le_refl _) ?_)
      rintro _ s6 ⟨r7, rfl, H⟩
      show wm iv L h0 (d + 1) 154 28 [lr 307, li a1, li a2, li r2] [vi r7] s6 (qi F)
      exact w_iret rfl rfl ⟨_, rfl, H⟩
  · replace H := H.2 h
    refine w_iload_n rfl rfl ?_
    refine w_iconst (n := 3) rfl rfl ?_
    refine w_icmp_eq rfl (fun h => ?_) (fun h => ?_)
    · replace H := H.1 h
      refine w_aload_n rfl rfl ?_
      refine w_iload_n rfl rfl ?_
      refine w_iload_n rfl rfl ?_
      refine m_call (as := [vi a1, vi a2]) (r := []) rfl rfl rfl rfl rfl rfl (wc_mono H (Nat.le_refl _) ?_)
      rintro _ s8 ⟨r9, rfl, H⟩
      show wm iv L h0 (d + 1) 154 18 [lr 307, li a1, li a2] [vi r9] s8 (qi F)
      refine w_istore_n rfl rfl ?_
      refine w_iload_n rfl rfl ?_
      refine w_if_le rfl (fun h => ?_) (fun h => ?_)
      · replace H := H.1 h
        refine w_aload_n rfl rfl ?_
        refine w_aload_n rfl rfl ?_
        refine m_geta (t := 0) (k := 3004) rfl rfl ?_
        refine w_aload_n rfl rfl ?_
        refine m_geta (t := 0) (k := 8) rfl rfl ?_
        refine w_iload_n rfl rfl ?_
        obtain ⟨g10, H⟩ := H
        refine m_ald rfl (f := 72) (k := 8) rfl g10 ?_
        refine w_iconst (n := 1) rfl rfl ?_
        obtain ⟨g11, H⟩ := H
        refine w_isub rfl g11 ?_
        obtain ⟨g12, H⟩ := H
        refine m_ald rfl (f := 10) (k := 3004) rfl g12 ?_
        refine m_put rfl rfl rfl ?_
        refine w_iconst (n := 1) rfl rfl ?_
        exact w_iret rfl rfl ⟨_, rfl, H⟩
      · replace H := H.2 h
        refine w_aload_n rfl rfl ?_
        refine w_iload_n rfl rfl ?_
        refine m_call (as := [vi r9]) (r := []) rfl rfl rfl rfl rfl rfl (wc_mono H (Nat.le_refl _) ?_)
        rintro _ s13 ⟨r14, rfl, H⟩
        show wm iv L h0 (d + 1) 154 28 [lr 307, li a1, li a2, li r9] [vi r14] s13 (qi F)
        exact w_iret rfl rfl ⟨_, rfl, H⟩
    · replace H := H.2 h
      refine w_iconst (n := (-1)) rfl rfl ?_
      exact w_iret rfl rfl ⟨_, rfl, H⟩

/-- HoleDeskModel.share(II)I -/
theorem B155 {iv : List (Int × Int)} {L : Nat} {h0 : MH} {d : Nat} {s : SM} {a1 : Int} {a2 : Int} {F : Int → SM → Prop} (H : cm iv L h0 d 153 [vr 307, vi a1, vi 1] s (qi fun r2 s1 => cm iv L h0 d 153 [vr 307, vi a2, vi 1] s1 (qi fun r4 s3 => wm iv L h0 (d + 1) 155 18 [lr 307, li a1, li a2, li r2, li r4, li 1] [] s3 (qi F)))) : cm iv L h0 (d + 1) 155 [vr 307, vi a1, vi a2] s (qi F) := by
  show wm iv L h0 (d + 1) 155 0 [lr 307, li a1, li a2] [] s (qi F)
  refine w_aload_n rfl rfl ?_
  refine w_iload_n rfl rfl ?_
  refine w_iconst (n := 1) rfl rfl ?_
  refine m_call (as := [vi a1, vi 1]) (r := []) rfl rfl rfl rfl rfl rfl (wc_mono H (Nat.le_refl _) ?_)
  rintro _ s1 ⟨r2, rfl, H⟩
  show wm iv L h0 (d + 1) 155 6 [lr 307, li a1, li a2] [vi r2] s1 (qi F)
  refine w_istore_n rfl rfl ?_
  refine w_aload_n rfl rfl ?_
  refine w_iload_n rfl rfl ?_
  refine w_iconst (n := 1) rfl rfl ?_
  refine m_call (as := [vi a2, vi 1]) (r := []) rfl rfl rfl rfl rfl rfl (wc_mono H (Nat.le_refl _) ?_)
  rintro _ s3 ⟨r4, rfl, H⟩
  show wm iv L h0 (d + 1) 155 13 [lr 307, li a1, li a2, li r2] [vi r4] s3 (qi F)
  refine w_istore rfl rfl ?_
  refine w_iconst (n := 1) rfl rfl ?_
  refine w_istore rfl rfl ?_
  exact wp_ls (sl_s (sl_s (sl_s (sl_s (sl_s (sl_s (sl_0))))))) H

/-- HoleDeskModel.share(II)I at 18 -/
theorem B155_18 {iv : List (Int × Int)} {L : Nat} {h0 : MH} {d : Nat} {s : SM} {l1 : Int} {l2 : Int} {l3 : Int} {l4 : Int} {l5 : Int} {F : Int → SM → Prop} (H : ((4 ≤ l5 → (0 ≤ l2 ∧ l2 < 8) ∧ (-2147483648 ≤ (s.2 72 l2) - 1 ∧ (s.2 72 l2) - 1 ≤ 2147483647) ∧ (0 ≤ (s.2 72 l2) - 1 ∧ (s.2 72 l2) - 1 < 3004) ∧ ((s.2 10 ((s.2 72 l2) - 1) ≠ 0 → (0 ≤ l1 ∧ l1 < 8) ∧ (-2147483648 ≤ (s.2 72 l1) - 1 ∧ (s.2 72 l1) - 1 ≤ 2147483647) ∧ (0 ≤ (s.2 72 l1) - 1 ∧ (s.2 72 l1) - 1 < 3004) ∧ ((s.2 10 ((s.2 72 l2) - 1) ≠ (-1) → (s.2 10 ((s.2 72 l2) - 1) ≠ 0) ∧ (-2147483648 ≤ (w32 (1000 * (s.2 10 ((s.2 72 l1) - 1)))).tdiv (s.2 10 ((s.2 72 l2) - 1)) ∧ (w32 (1000 * (s.2 10 ((s.2 72 l1) - 1)))).tdiv (s.2 10 ((s.2 72 l2) - 1)) ≤ 2147483647) ∧ F 1 (us s 73 ((w32 (1000 * (s.2 10 ((s.2 72 l1) - 1)))).tdiv (s.2 10 ((s.2 72 l2) - 1))))) ∧ (s.2 10 ((s.2 72 l2) - 1) = (-1) → F 1 (us s 73 (w32 (-(w32 (1000 * (s.2 10 ((s.2 72 l1) - 1)))))))))) ∧ (s.2 10 ((s.2 72 l2) - 1) = 0 → cm iv L h0 d 61 [vr 307, vi 4] s (qi fun r10 s9 => F r10 s9)))) ∧ (l5 < 4 → ((l5 ≠ 1 → ((l5 ≠ 2 → ((l3 = 3 → cm iv L h0 d 61 [vr 307, vi 3] s (qi fun r12 s11 => F r12 s11)) ∧ (l3 ≠ 3 → ((l4 ≠ 3 → (-2147483648 ≤ l5 + 1 ∧ l5 + 1 ≤ 2147483647) ∧ wm iv L h0 (d + 1) 155 18 [lr 307, li l1, li l2, li l3, li l4, li (l5 + 1)] [] s (qi F)) ∧ (l4 = 3 → cm iv L h0 d 61 [vr 307, vi 3] s (qi fun r15 s14 => F r15 s14)))))) ∧ (l5 = 2 → ((l3 = 1 → cm iv L h0 d 61 [vr 307, vi 1] s (qi fun r17 s16 => F r17 s16)) ∧ (l3 ≠ 1 → ((l4 ≠ 1 → (-2147483648 ≤ l5 + 1 ∧ l5 + 1 ≤ 2147483647) ∧ wm iv L h0 (d + 1) 155 18 [lr 307, li l1, li l2, li l3, li l4, li (l5 + 1)] [] s (qi F)) ∧ (l4 = 1 → cm iv L h0 d 61 [vr 307, vi 1] s (qi fun r20 s19 => F r20 s19)))))))) ∧ (l5 = 1 → ((l3 = 2 → cm iv L h0 d 61 [vr 307, vi 2] s (qi fun r22 s21 => F r22 s21)) ∧ (l3 ≠ 2 → ((l4 ≠ 2 → (-2147483648 ≤ l5 + 1 ∧ l5 + 1 ≤ 2147483647) ∧ wm iv L h0 (d + 1) 155 18 [lr 307, li l1, li l2, li l3, li l4, li (l5 + 1)] [] s (qi F)) ∧ (l4 = 2 → cm iv L h0 d 61 [vr 307, vi 2] s (qi fun r25 s24 => F r25 s24)))))))))) : wm iv L h0 (d + 1) 155 18 [lr 307, li l1, li l2, li l3, li l4, li l5] [] s (qi F) := by
  refine w_iload rfl rfl ?_
  refine w_iconst (n := 4) rfl rfl ?_
  refine w_icmp_ge rfl (fun h => ?_) (fun h => ?_)
  · replace H := H.1 h
    refine w_aload_n rfl rfl ?_
    refine m_geta (t := 0) (k := 3004) rfl rfl ?_
    refine w_aload_n rfl rfl ?_
    refine m_geta (t := 0) (k := 8) rfl rfl ?_
    refine w_iload_n rfl rfl ?_
    obtain ⟨g1, H⟩ := H
    refine m_ald rfl (f := 72) (k := 8) rfl g1 ?_
    refine w_iconst (n := 1) rfl rfl ?_
    obtain ⟨g2, H⟩ := H
    refine w_isub rfl g2 ?_
    obtain ⟨g3, H⟩ := H
    refine m_ald rfl (f := 10) (k := 3004) rfl g3 ?_
    refine w_istore rfl rfl ?_
    refine w_iload rfl rfl ?_
    refine w_if_ne rfl (fun h => ?_) (fun h => ?_)
    · replace H := H.1 h
      refine w_sipush (n := 1000) rfl rfl rfl ?_
      refine w_aload_n rfl rfl ?_
      refine m_geta (t := 0) (k := 3004) rfl rfl ?_
      refine w_aload_n rfl rfl ?_
      refine m_geta (t := 0) (k := 8) rfl rfl ?_
      refine w_iload_n rfl rfl ?_
      obtain ⟨g4, H⟩ := H
      refine m_ald rfl (f := 72) (k := 8) rfl g4 ?_
      refine w_iconst (n := 1) rfl rfl ?_
      obtain ⟨g5, H⟩ := H
      refine w_isub rfl g5 ?_
      obtain ⟨g6, H⟩ := H
      refine m_ald rfl (f := 10) (k := 3004) rfl g6 ?_
      refine w_imulw rfl ?_
      refine w_istore rfl rfl ?_
      refine w_aload_n rfl rfl ?_
      refine w_iload rfl rfl ?_
      refine w_iconst (n := (-1)) rfl rfl ?_
      refine w_icmp_ne rfl (fun h => ?_) (fun h => ?_)
      · replace H := H.1 h
        refine w_iload rfl rfl ?_
        refine w_iload rfl rfl ?_
        obtain ⟨g7, H⟩ := H
        obtain ⟨g8, H⟩ := H
        refine w_idiv rfl g7 g8 ?_
        refine m_put rfl rfl rfl ?_
        refine w_iconst (n := 1) rfl rfl ?_
        exact w_iret rfl rfl ⟨_, rfl, H⟩
      · replace H := H.2 h
        refine w_iload rfl rfl ?_
        refine w_inegw rfl ?_
        refine w_goto rfl ?_
        refine m_put rfl rfl rfl ?_
        refine w_iconst (n := 1) rfl rfl ?_
        exact w_iret rfl rfl ⟨_, rfl, H⟩
    · replace H := H.2 h
      refine w_aload_n rfl rfl ?_
      refine w_iconst (n := 4) rfl rfl ?_
      refine m_call (as := [vi 4]) (r := []) rfl rfl rfl rfl rfl rfl (wc_mono H (Nat.le_refl _) ?_)
      rintro _ s9 ⟨r10, rfl, H⟩
      show wm iv L h0 (d + 1) 155 98 [lr 307, li l1, li l2, li l3, li l4, li (s.2 10 ((s.2 72 l2) - 1))] [vi r10] s9 (qi F)
      exact w_iret rfl rfl ⟨_, rfl, H⟩
  · replace H := H.2 h
    refine w_iload rfl rfl ?_
    refine w_iconst (n := 1) rfl rfl ?_
    refine w_icmp_ne rfl (fun h => ?_) (fun h => ?_)
    · replace H := H.1 h
      refine w_iload rfl rfl ?_
      refine w_iconst (n := 2) rfl rfl ?_
      refine w_icmp_ne rfl (fun h => ?_) (fun h => ?_)
      · replace H := H.1 h
        refine w_iconst (n := 3) rfl rfl ?_
        refine w_istore rfl rfl ?_
        refine w_iload_n rfl rfl ?_
        refine w_iload rfl rfl ?_
        refine w_icmp_eq rfl (fun h => ?_) (fun h => ?_)
        · replace H := H.1 h
          refine w_aload_n rfl rfl ?_
          refine w_iload rfl rfl ?_
          refine m_call (as := [vi 3]) (r := []) rfl rfl rfl rfl rfl rfl (wc_mono H (Nat.le_refl _) ?_)
          rintro _ s11 ⟨r12, rfl, H⟩
          show wm iv L h0 (d + 1) 155 66 [lr 307, li l1, li l2, li l3, li l4, li l5, li 3] [vi r12] s11 (qi F)
          exact w_iret rfl rfl ⟨_, rfl, H⟩
        · replace H := H.2 h
          refine w_iload rfl rfl ?_
          refine w_iload rfl rfl ?_
          refine w_icmp_ne rfl (fun h => ?_) (fun h => ?_)
          · replace H := H.1 h
            obtain ⟨g13, H⟩ := H
            refine w_iinc rfl rfl rfl g13 ?_
            refine w_goto rfl ?_
            exact wp_ls (sl_s (sl_s (sl_s (sl_s (sl_s (sl_s (sl_0))))))) H
          · replace H := H.2 h
            refine w_aload_n rfl rfl ?_
            refine w_iload rfl rfl ?_
            refine m_call (as := [vi 3]) (r := []) rfl rfl rfl rfl rfl rfl (wc_mono H (Nat.le_refl _) ?_)
            rintro _ s14 ⟨r15, rfl, H⟩
            show wm iv L h0 (d + 1) 155 66 [lr 307, li l1, li l2, li l3, li l4, li l5, li 3] [vi r15] s14 (qi F)
            exact w_iret rfl rfl ⟨_, rfl, H⟩
      · replace H := H.2 h
        refine w_iconst (n := 1) rfl rfl ?_
        refine w_goto rfl ?_
        refine w_istore rfl rfl ?_
        refine w_iload_n rfl rfl ?_
        refine w_iload rfl rfl ?_
        refine w_icmp_eq rfl (fun h => ?_) (fun h => ?_)
        · replace H := H.1 h
          refine w_aload_n rfl rfl ?_
          refine w_iload rfl rfl ?_
          refine m_call (as := [vi 1]) (r := []) rfl rfl rfl rfl rfl rfl (wc_mono H (Nat.le_refl _) ?_)
          rintro _ s16 ⟨r17, rfl, H⟩
          show wm iv L h0 (d + 1) 155 66 [lr 307, li l1, li l2, li l3, li l4, li l5, li 1] [vi r17] s16 (qi F)
          exact w_iret rfl rfl ⟨_, rfl, H⟩
        · replace H := H.2 h
          refine w_iload rfl rfl ?_
          refine w_iload rfl rfl ?_
          refine w_icmp_ne rfl (fun h => ?_) (fun h => ?_)
          · replace H := H.1 h
            obtain ⟨g18, H⟩ := H
            refine w_iinc rfl rfl rfl g18 ?_
            refine w_goto rfl ?_
            exact wp_ls (sl_s (sl_s (sl_s (sl_s (sl_s (sl_s (sl_0))))))) H
          · replace H := H.2 h
            refine w_aload_n rfl rfl ?_
            refine w_iload rfl rfl ?_
            refine m_call (as := [vi 1]) (r := []) rfl rfl rfl rfl rfl rfl (wc_mono H (Nat.le_refl _) ?_)
            rintro _ s19 ⟨r20, rfl, H⟩
            show wm iv L h0 (d + 1) 155 66 [lr 307, li l1, li l2, li l3, li l4, li l5, li 1] [vi r20] s19 (qi F)
            exact w_iret rfl rfl ⟨_, rfl, H⟩
    · replace H := H.2 h
      refine w_iconst (n := 2) rfl rfl ?_
      refine w_goto rfl ?_
      refine w_istore rfl rfl ?_
      refine w_iload_n rfl rfl ?_
      refine w_iload rfl rfl ?_
      refine w_icmp_eq rfl (fun h => ?_) (fun h => ?_)
      · replace H := H.1 h
        refine w_aload_n rfl rfl ?_
        refine w_iload rfl rfl ?_
        refine m_call (as := [vi 2]) (r := []) rfl rfl rfl rfl rfl rfl (wc_mono H (Nat.le_refl _) ?_)
        rintro _ s21 ⟨r22, rfl, H⟩
        show wm iv L h0 (d + 1) 155 66 [lr 307, li l1, li l2, li l3, li l4, li l5, li 2] [vi r22] s21 (qi F)
        exact w_iret rfl rfl ⟨_, rfl, H⟩
      · replace H := H.2 h
        refine w_iload rfl rfl ?_
        refine w_iload rfl rfl ?_
        refine w_icmp_ne rfl (fun h => ?_) (fun h => ?_)
        · replace H := H.1 h
          obtain ⟨g23, H⟩ := H
          refine w_iinc rfl rfl rfl g23 ?_
          refine w_goto rfl ?_
          exact wp_ls (sl_s (sl_s (sl_s (sl_s (sl_s (sl_s (sl_0))))))) H
        · replace H := H.2 h
          refine w_aload_n rfl rfl ?_
          refine w_iload rfl rfl ?_
          refine m_call (as := [vi 2]) (r := []) rfl rfl rfl rfl rfl rfl (wc_mono H (Nat.le_refl _) ?_)
          rintro _ s24 ⟨r25, rfl, H⟩
          show wm iv L h0 (d + 1) 155 66 [lr 307, li l1, li l2, li l3, li l4, li l5, li 2] [vi r25] s24 (qi F)
          exact w_iret rfl rfl ⟨_, rfl, H⟩

/-- HoleDeskModel.asked()I -/
theorem B156 {iv : List (Int × Int)} {L : Nat} {h0 : MH} {d : Nat} {s : SM} {F : Int → SM → Prop} (H : F (s.1 73) s) : cm iv L h0 d 156 [vr 307] s (qi F) := by
  show wm iv L h0 d 156 0 [lr 307] [] s (qi F)
  refine w_aload_n rfl rfl ?_
  refine m_get rfl rfl ?_
  exact w_iret rfl rfl ⟨_, rfl, H⟩

/-- HoleDeskModel.count(I)I -/
theorem B157 {iv : List (Int × Int)} {L : Nat} {h0 : MH} {d : Nat} {s : SM} {a1 : Int} {F : Int → SM → Prop} (H : ((0 ≤ a1 ∧ a1 ≤ 6 → cm iv L h0 d 86 [vr 307] s (qv fun s1 => cm iv L h0 d 79 [vr 307] s1 (qv fun s2 => wm iv L h0 (d + 1) 157 27 [lr 307, li a1, li 0, li 0, li 0] [] s2 (qi F)))) ∧ (a1 < 0 ∨ 6 < a1 → F (-1) s))) : cm iv L h0 (d + 1) 157 [vr 307, vi a1] s (qi F) := by
  show wm iv L h0 (d + 1) 157 0 [lr 307, li a1] [] s (qi F)
  refine w_iload_n rfl rfl ?_
  refine w_iconst (n := 0) rfl rfl ?_
  refine w_bipush (n := 6) rfl rfl rfl ?_
  refine w_static (as := [vi a1, vi 0, vi 6]) (r := []) rfl rfl rfl rfl rfl (m_in (fun h => ?_) (fun h => ?_))
  · show wm iv L h0 (d + 1) 157 7 [lr 307, li a1] [vi 1] s (qi F)
    replace H := H.1 h
    refine w_if_ne rfl (fun _ => ?_) (fun h => absurd h (by decide))
    refine w_aload_n rfl rfl ?_
    refine m_call (as := []) (r := []) rfl rfl rfl rfl rfl rfl (wc_mono H (Nat.le_refl _) ?_)
    rintro _ s1 ⟨rfl, H⟩
    show wm iv L h0 (d + 1) 157 16 [lr 307, li a1] [] s1 (qi F)
    refine w_aload_n rfl rfl ?_
    refine m_call (as := []) (r := []) rfl rfl rfl rfl rfl rfl (wc_mono H (Nat.le_refl _) ?_)
    rintro _ s2 ⟨rfl, H⟩
    show wm iv L h0 (d + 1) 157 20 [lr 307, li a1] [] s2 (qi F)
    refine w_iconst (n := 0) rfl rfl ?_
    refine w_istore_n rfl rfl ?_
    refine w_iconst (n := 0) rfl rfl ?_
    refine w_istore_n rfl rfl ?_
    refine w_iconst (n := 0) rfl rfl ?_
    refine w_istore rfl rfl ?_
    exact wp_ls (sl_s (sl_s (sl_s (sl_s (sl_s (sl_0)))))) H
  · show wm iv L h0 (d + 1) 157 7 [lr 307, li a1] [vi 0] s (qi F)
    replace H := H.2 h
    refine w_if_ne rfl (fun h => absurd h (by decide)) (fun _ => ?_)
    refine w_iconst (n := (-1)) rfl rfl ?_
    exact w_iret rfl rfl ⟨_, rfl, H⟩

/-- HoleDeskModel.count(I)I at 27 -/
theorem B157_27 {iv : List (Int × Int)} {L : Nat} {h0 : MH} {d : Nat} {s : SM} {l1 : Int} {l2 : Int} {l3 : Int} {l4 : Int} {F : Int → SM → Prop} (H : ((s.1 18 ≤ l4 → wm iv L h0 (d + 1) 157 94 [lr 307, li l1, li l2, li l3, li 0, li 0] [] s (qi F)) ∧ (l4 < s.1 18 → (0 ≤ l4 ∧ l4 < 80) ∧ (0 ≤ s.2 17 l4 ∧ s.2 17 l4 < 3004) ∧ ((s.2 21 (s.2 17 l4) ≤ 0 → (-2147483648 ≤ l2 + 0 ∧ l2 + 0 ≤ 2147483647) ∧ ((s.2 9 (s.2 17 l4) ≠ 0 → (-2147483648 ≤ l3 + 0 ∧ l3 + 0 ≤ 2147483647) ∧ (-2147483648 ≤ l4 + 1 ∧ l4 + 1 ≤ 2147483647) ∧ wm iv L h0 (d + 1) 157 27 [lr 307, li l1, li (l2 + 0), li (l3 + 0), li (l4 + 1)] [] s (qi F)) ∧ (s.2 9 (s.2 17 l4) = 0 → (-2147483648 ≤ l3 + 1 ∧ l3 + 1 ≤ 2147483647) ∧ (-2147483648 ≤ l4 + 1 ∧ l4 + 1 ≤ 2147483647) ∧ wm iv L h0 (d + 1) 157 27 [lr 307, li l1, li (l2 + 0), li (l3 + 1), li (l4 + 1)] [] s (qi F)))) ∧ (0 < s.2 21 (s.2 17 l4) → (-2147483648 ≤ l2 + 1 ∧ l2 + 1 ≤ 2147483647) ∧ ((s.2 9 (s.2 17 l4) ≠ 0 → (-2147483648 ≤ l3 + 0 ∧ l3 + 0 ≤ 2147483647) ∧ (-2147483648 ≤ l4 + 1 ∧ l4 + 1 ≤ 2147483647) ∧ wm iv L h0 (d + 1) 157 27 [lr 307, li l1, li (l2 + 1), li (l3 + 0), li (l4 + 1)] [] s (qi F)) ∧ (s.2 9 (s.2 17 l4) = 0 → (-2147483648 ≤ l3 + 1 ∧ l3 + 1 ≤ 2147483647) ∧ (-2147483648 ≤ l4 + 1 ∧ l4 + 1 ≤ 2147483647) ∧ wm iv L h0 (d + 1) 157 27 [lr 307, li l1, li (l2 + 1), li (l3 + 1), li (l4 + 1)] [] s (qi F)))))))) : wm iv L h0 (d + 1) 157 27 [lr 307, li l1, li l2, li l3, li l4] [] s (qi F) := by
  refine w_iload rfl rfl ?_
  refine w_aload_n rfl rfl ?_
  refine m_get rfl rfl ?_
  refine w_icmp_ge rfl (fun h => ?_) (fun h => ?_)
  · replace H := H.1 h
    refine w_iconst (n := 0) rfl rfl ?_
    refine w_istore rfl rfl ?_
    refine w_iconst (n := 0) rfl rfl ?_
    refine w_istore rfl rfl ?_
    exact wp_ls (sl_s (sl_s (sl_s (sl_s (sl_s (sl_s (sl_0))))))) H
  · replace H := H.2 h
    refine w_iload_n rfl rfl ?_
    refine w_aload_n rfl rfl ?_
    refine m_geta (t := 0) (k := 3004) rfl rfl ?_
    refine w_aload_n rfl rfl ?_
    refine m_geta (t := 0) (k := 80) rfl rfl ?_
    refine w_iload rfl rfl ?_
    obtain ⟨g1, H⟩ := H
    refine m_ald rfl (f := 17) (k := 80) rfl g1 ?_
    obtain ⟨g2, H⟩ := H
    refine m_ald rfl (f := 21) (k := 3004) rfl g2 ?_
    refine w_if_le rfl (fun h => ?_) (fun h => ?_)
    · replace H := H.1 h
      refine w_iconst (n := 0) rfl rfl ?_
      obtain ⟨g3, H⟩ := H
      refine w_iadd rfl g3 ?_
      refine w_istore_n rfl rfl ?_
      refine w_iload_n rfl rfl ?_
      refine w_aload_n rfl rfl ?_
      refine m_geta (t := 0) (k := 3004) rfl rfl ?_
      refine w_aload_n rfl rfl ?_
      refine m_geta (t := 0) (k := 80) rfl rfl ?_
      refine w_iload rfl rfl ?_
      refine m_ald rfl (f := 17) (k := 80) rfl g1 ?_
      refine m_ald rfl (f := 9) (k := 3004) rfl g2 ?_
      refine w_if_ne rfl (fun h => ?_) (fun h => ?_)
      · replace H := H.1 h
        refine w_iconst (n := 0) rfl rfl ?_
        obtain ⟨g4, H⟩ := H
        refine w_iadd rfl g4 ?_
        refine w_istore_n rfl rfl ?_
        obtain ⟨g5, H⟩ := H
        refine w_iinc rfl rfl rfl g5 ?_
        refine w_goto rfl ?_
        exact wp_ls (sl_s (sl_s (sl_s (sl_s (sl_s (sl_0)))))) H
      · replace H := H.2 h
        refine w_iconst (n := 1) rfl rfl ?_
        refine w_goto rfl ?_
        obtain ⟨g6, H⟩ := H
        refine w_iadd rfl g6 ?_
        refine w_istore_n rfl rfl ?_
        obtain ⟨g7, H⟩ := H
        refine w_iinc rfl rfl rfl g7 ?_
        refine w_goto rfl ?_
        exact wp_ls (sl_s (sl_s (sl_s (sl_s (sl_s (sl_0)))))) H
    · replace H := H.2 h
      refine w_iconst (n := 1) rfl rfl ?_
      refine w_goto rfl ?_
      obtain ⟨g8, H⟩ := H
      refine w_iadd rfl g8 ?_
      refine w_istore_n rfl rfl ?_
      refine w_iload_n rfl rfl ?_
      refine w_aload_n rfl rfl ?_
      refine m_geta (t := 0) (k := 3004) rfl rfl ?_
      refine w_aload_n rfl rfl ?_
      refine m_geta (t := 0) (k := 80) rfl rfl ?_
      refine w_iload rfl rfl ?_
      refine m_ald rfl (f := 17) (k := 80) rfl g1 ?_
      refine m_ald rfl (f := 9) (k := 3004) rfl g2 ?_
      refine w_if_ne rfl (fun h => ?_) (fun h => ?_)
      · replace H := H.1 h
        refine w_iconst (n := 0) rfl rfl ?_
        obtain ⟨g9, H⟩ := H
        refine w_iadd rfl g9 ?_
        refine w_istore_n rfl rfl ?_
        obtain ⟨g10, H⟩ := H
        refine w_iinc rfl rfl rfl g10 ?_
        refine w_goto rfl ?_
        exact wp_ls (sl_s (sl_s (sl_s (sl_s (sl_s (sl_0)))))) H
      · replace H := H.2 h
        refine w_iconst (n := 1) rfl rfl ?_
        refine w_goto rfl ?_
        obtain ⟨g11, H⟩ := H
        refine w_iadd rfl g11 ?_
        refine w_istore_n rfl rfl ?_
        obtain ⟨g12, H⟩ := H
        refine w_iinc rfl rfl rfl g12 ?_
        refine w_goto rfl ?_
        exact wp_ls (sl_s (sl_s (sl_s (sl_s (sl_s (sl_0)))))) H

/-- HoleDeskModel.count(I)I at 94 -/
theorem B157_94 {iv : List (Int × Int)} {L : Nat} {h0 : MH} {d : Nat} {s : SM} {l1 : Int} {l2 : Int} {l3 : Int} {l4 : Int} {l5 : Int} {F : Int → SM → Prop} (H : ((6 ≤ l5 → ((l1 = 0 → F (s.1 2) s) ∧ (l1 = 1 → F (s.1 8) s) ∧ (l1 = 2 → F (s.1 24) s) ∧ (l1 = 3 → F l2 s) ∧ (l1 = 4 → F l3 s) ∧ (l1 = 5 → F l4 s) ∧ (l1 < 0 ∨ 5 < l1 → F (s.1 61) s))) ∧ (l5 < 6 → (0 ≤ l5 ∧ l5 < 6) ∧ (-2147483648 ≤ l4 + (s.2 37 l5) ∧ l4 + (s.2 37 l5) ≤ 2147483647) ∧ (-2147483648 ≤ l5 + 1 ∧ l5 + 1 ≤ 2147483647) ∧ wm iv L h0 (d + 1) 157 94 [lr 307, li l1, li l2, li l3, li (l4 + (s.2 37 l5)), li (l5 + 1)] [] s (qi F)))) : wm iv L h0 (d + 1) 157 94 [lr 307, li l1, li l2, li l3, li l4, li l5] [] s (qi F) := by
  refine w_iload rfl rfl ?_
  refine w_bipush (n := 6) rfl rfl rfl ?_
  refine w_icmp_ge rfl (fun h => ?_) (fun h => ?_)
  · replace H := H.1 h
    refine w_iload_n rfl rfl ?_
    have J160 : (l1 = 0) → wm iv L h0 (d + 1) 157 160 [lr 307, li l1, li l2, li l3, li l4, li l5] [] s (qi F) := fun h => by
      replace H := H.1 h
      refine w_aload_n rfl rfl ?_
      refine m_get rfl rfl ?_
      exact w_iret rfl rfl ⟨_, rfl, H⟩
    have J165 : (l1 = 1) → wm iv L h0 (d + 1) 157 165 [lr 307, li l1, li l2, li l3, li l4, li l5] [] s (qi F) := fun h => by
      replace H := H.2.1 h
      refine w_aload_n rfl rfl ?_
      refine m_get rfl rfl ?_
      exact w_iret rfl rfl ⟨_, rfl, H⟩
    have J170 : (l1 = 2) → wm iv L h0 (d + 1) 157 170 [lr 307, li l1, li l2, li l3, li l4, li l5] [] s (qi F) := fun h => by
      replace H := H.2.2.1 h
      refine w_aload_n rfl rfl ?_
      refine m_get rfl rfl ?_
      exact w_iret rfl rfl ⟨_, rfl, H⟩
    have J175 : (l1 = 3) → wm iv L h0 (d + 1) 157 175 [lr 307, li l1, li l2, li l3, li l4, li l5] [] s (qi F) := fun h => by
      replace H := H.2.2.2.1 h
      refine w_iload_n rfl rfl ?_
      exact w_iret rfl rfl ⟨_, rfl, H⟩
    have J177 : (l1 = 4) → wm iv L h0 (d + 1) 157 177 [lr 307, li l1, li l2, li l3, li l4, li l5] [] s (qi F) := fun h => by
      replace H := H.2.2.2.2.1 h
      refine w_iload_n rfl rfl ?_
      exact w_iret rfl rfl ⟨_, rfl, H⟩
    have J179 : (l1 = 5) → wm iv L h0 (d + 1) 157 179 [lr 307, li l1, li l2, li l3, li l4, li l5] [] s (qi F) := fun h => by
      replace H := H.2.2.2.2.2.1 h
      refine w_iload rfl rfl ?_
      exact w_iret rfl rfl ⟨_, rfl, H⟩
    have J182 : (l1 < 0 ∨ 5 < l1) → wm iv L h0 (d + 1) 157 182 [lr 307, li l1, li l2, li l3, li l4, li l5] [] s (qi F) := fun h => by
      replace H := H.2.2.2.2.2.2 h
      refine w_aload_n rfl rfl ?_
      refine m_get rfl rfl ?_
      exact w_iret rfl rfl ⟨_, rfl, H⟩
    refine w_tsw (td := 182) (ts := [160, 165, 170, 175, 177, 179]) rfl rfl rfl rfl rfl rfl (fun h => J182 (by omega)) ?_
    exact swA_c (fun h => J160 (by omega)) (swA_c (fun h => J165 (by omega)) (swA_c (fun h => J170 (by omega)) (swA_c (fun h => J175 (by omega)) (swA_c (fun h => J177 (by omega)) (swA_c (fun h => J179 (by omega)) (swA_n))))))
  · replace H := H.2 h
    refine w_iload rfl rfl ?_
    refine w_aload_n rfl rfl ?_
    refine m_geta (t := 0) (k := 6) rfl rfl ?_
    refine w_iload rfl rfl ?_
    obtain ⟨g1, H⟩ := H
    refine m_ald rfl (f := 37) (k := 6) rfl g1 ?_
    obtain ⟨g2, H⟩ := H
    refine w_iadd rfl g2 ?_
    refine w_istore rfl rfl ?_
    obtain ⟨g3, H⟩ := H
    refine w_iinc rfl rfl rfl g3 ?_
    refine w_goto rfl ?_
    exact wp_ls (sl_s (sl_s (sl_s (sl_s (sl_s (sl_s (sl_0))))))) H

/-- HoleDeskModel.digest()J -/
theorem B158 {iv : List (Int × Int)} {L : Nat} {h0 : MH} {d : Nat} {s : SM} {F : Int → SM → Prop} (H : cm iv L h0 d 86 [vr 307] s (qv fun s1 => cm iv L h0 d 79 [vr 307] s1 (qv fun s2 => wm iv L h0 (d + 1) 158 14 [lr 307, ll 17, ln, li 0] [] s2 (ql F)))) : cm iv L h0 (d + 1) 158 [vr 307] s (ql F) := by
  show wm iv L h0 (d + 1) 158 0 [lr 307] [] s (ql F)
  refine w_aload_n rfl rfl ?_
  refine m_call (as := []) (r := []) rfl rfl rfl rfl rfl rfl (wc_mono H (Nat.le_refl _) ?_)
  rintro _ s1 ⟨rfl, H⟩
  show wm iv L h0 (d + 1) 158 4 [lr 307] [] s1 (ql F)
  refine w_aload_n rfl rfl ?_
  refine m_call (as := []) (r := []) rfl rfl rfl rfl rfl rfl (wc_mono H (Nat.le_refl _) ?_)
  rintro _ s2 ⟨rfl, H⟩
  show wm iv L h0 (d + 1) 158 8 [lr 307] [] s2 (ql F)
  refine w_ldc2 (z := 17) rfl rfl ?_
  refine w_lstore_n rfl rfl ?_
  refine w_iconst (n := 0) rfl rfl ?_
  refine w_istore_n rfl rfl ?_
  exact wp_ls (sl_s (sl_s (sl_n (sl_s (sl_0))))) H

/-- HoleDeskModel.digest()J at 14 -/
theorem B158_14 {iv : List (Int × Int)} {L : Nat} {h0 : MH} {d : Nat} {s : SM} {l1 : Int} {l3 : Int} {F : Int → SM → Prop} (H : ((s.1 18 ≤ l3 → F ((31 * ((31 * l1) + (s.1 16))) + (s.1 8)) s) ∧ (l3 < s.1 18 → (0 ≤ l3 ∧ l3 < 80) ∧ (0 ≤ s.2 17 l3 ∧ s.2 17 l3 < 3004) ∧ (-2147483648 ≤ l3 + 1 ∧ l3 + 1 ≤ 2147483647) ∧ wm iv L h0 (d + 1) 158 14 [lr 307, ll ((31 * ((31 * ((31 * ((31 * ((31 * l1) + (s.2 17 l3))) + (s.2 9 (s.2 17 l3)))) + (s.2 10 (s.2 17 l3)))) + (s.2 11 (s.2 17 l3)))) + (s.2 21 (s.2 17 l3))), ln, li (l3 + 1)] [] s (ql F)))) : wm iv L h0 (d + 1) 158 14 [lr 307, ll l1, ln, li l3] [] s (ql F) := by
  refine w_iload_n rfl rfl ?_
  refine w_aload_n rfl rfl ?_
  refine m_get rfl rfl ?_
  refine w_icmp_ge rfl (fun h => ?_) (fun h => ?_)
  · replace H := H.1 h
    refine w_ldc2 (z := 31) rfl rfl ?_
    refine w_ldc2 (z := 31) rfl rfl ?_
    refine w_lload_n rfl rfl ?_
    refine w_lmul rfl ?_
    refine w_aload_n rfl rfl ?_
    refine m_get rfl rfl ?_
    refine w_i2l rfl ?_
    refine w_ladd rfl ?_
    refine w_lmul rfl ?_
    refine w_aload_n rfl rfl ?_
    refine m_get rfl rfl ?_
    refine w_i2l rfl ?_
    refine w_ladd rfl ?_
    exact w_lret rfl rfl ⟨_, rfl, H⟩
  · replace H := H.2 h
    refine w_aload_n rfl rfl ?_
    refine m_geta (t := 0) (k := 80) rfl rfl ?_
    refine w_iload_n rfl rfl ?_
    obtain ⟨g1, H⟩ := H
    refine m_ald rfl (f := 17) (k := 80) rfl g1 ?_
    refine w_istore rfl rfl ?_
    refine w_ldc2 (z := 31) rfl rfl ?_
    refine w_ldc2 (z := 31) rfl rfl ?_
    refine w_lload_n rfl rfl ?_
    refine w_lmul rfl ?_
    refine w_iload rfl rfl ?_
    refine w_i2l rfl ?_
    refine w_ladd rfl ?_
    refine w_lmul rfl ?_
    refine w_aload_n rfl rfl ?_
    refine m_geta (t := 0) (k := 3004) rfl rfl ?_
    refine w_iload rfl rfl ?_
    obtain ⟨g2, H⟩ := H
    refine m_ald rfl (f := 9) (k := 3004) rfl g2 ?_
    refine w_i2l rfl ?_
    refine w_ladd rfl ?_
    refine w_lstore_n rfl rfl ?_
    refine w_ldc2 (z := 31) rfl rfl ?_
    refine w_ldc2 (z := 31) rfl rfl ?_
    refine w_ldc2 (z := 31) rfl rfl ?_
    refine w_lload_n rfl rfl ?_
    refine w_lmul rfl ?_
    refine w_aload_n rfl rfl ?_
    refine m_geta (t := 0) (k := 3004) rfl rfl ?_
    refine w_iload rfl rfl ?_
    refine m_ald rfl (f := 10) (k := 3004) rfl g2 ?_
    refine w_i2l rfl ?_
    refine w_ladd rfl ?_
    refine w_lmul rfl ?_
    refine w_aload_n rfl rfl ?_
    refine m_geta (t := 0) (k := 3004) rfl rfl ?_
    refine w_iload rfl rfl ?_
    refine m_ald rfl (f := 11) (k := 3004) rfl g2 ?_
    refine w_i2l rfl ?_
    refine w_ladd rfl ?_
    refine w_lmul rfl ?_
    refine w_aload_n rfl rfl ?_
    refine m_geta (t := 0) (k := 3004) rfl rfl ?_
    refine w_iload rfl rfl ?_
    refine m_ald rfl (f := 21) (k := 3004) rfl g2 ?_
    refine w_i2l rfl ?_
    refine w_ladd rfl ?_
    refine w_lstore_n rfl rfl ?_
    obtain ⟨g3, H⟩ := H
    refine w_iinc rfl rfl rfl g3 ?_
    refine w_goto rfl ?_
    exact wp_ls (sl_s (sl_s (sl_n (sl_s (sl_0))))) H
end
