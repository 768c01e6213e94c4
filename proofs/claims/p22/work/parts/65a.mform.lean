/-! What the methods of the reference come to. Printed by wip/gen2/gens.py. -/
/-- HoleDeskModel.meets(I)I -/
theorem B61 {iv : List (Int × Int)} {L : Nat} {h0 : MH} {d : Nat} {s : SM} {a1 : Int} {F : Int → SM → Prop} (H : (0 ≤ a1 ∧ a1 < 6) ∧ (-2147483648 ≤ (s.2 1 a1) + 1 ∧ (s.2 1 a1) + 1 ≤ 2147483647) ∧ F (-3) (ua (us s 0 a1) 1 a1 ((s.2 1 a1) + 1))) : cm iv L h0 d 61 [vr 307, vi a1] s (qi F) := by
  show wm iv L h0 d 61 0 [lr 307, li a1] [] s (qi F)
  refine w_aload_n rfl rfl ?_
  refine w_iload_n rfl rfl ?_
  refine m_put rfl rfl rfl ?_
  refine w_aload_n rfl rfl ?_
  refine m_geta (t := 0) (k := 6) rfl rfl ?_
  refine w_iload_n rfl rfl ?_
  refine w_dup2 rfl rfl rfl ?_
  obtain ⟨g1, H⟩ := H
  refine m_ald rfl (f := 1) (k := 6) rfl g1 ?_
  show wm iv L h0 d 61 12 [lr 307, li a1] [vi (s.2 1 a1), vi a1, vr 308] (us s 0 a1) (qi F)
  refine w_iconst (n := 1) rfl rfl ?_
  obtain ⟨g2, H⟩ := H
  refine w_iadd rfl g2 ?_
  refine m_ast rfl (f := 1) (k := 6) rfl g1 ?_
  refine w_bipush (n := (-3)) rfl rfl rfl ?_
  exact w_iret rfl rfl ⟨_, rfl, H⟩

/-- HoleDeskModel.finding()I -/
theorem B62 {iv : List (Int × Int)} {L : Nat} {h0 : MH} {d : Nat} {s : SM} {F : Int → SM → Prop} (H : F (s.1 0) s) : cm iv L h0 d 62 [vr 307] s (qi F) := by
  show wm iv L h0 d 62 0 [lr 307] [] s (qi F)
  refine w_aload_n rfl rfl ?_
  refine m_get rfl rfl ?_
  exact w_iret rfl rfl ⟨_, rfl, H⟩

/-- HoleDeskModel.findings(I)I -/
theorem B63 {iv : List (Int × Int)} {L : Nat} {h0 : MH} {d : Nat} {s : SM} {a1 : Int} {F : Int → SM → Prop} (H : ((1 ≤ a1 ∧ a1 ≤ 5 → (0 ≤ a1 ∧ a1 < 6) ∧ F (s.2 1 a1) s) ∧ (a1 < 1 ∨ 5 < a1 → F (-1) s))) : cm iv L h0 (d + 1) 63 [vr 307, vi a1] s (qi F) := by
  show wm iv L h0 (d + 1) 63 0 [lr 307, li a1] [] s (qi F)
  refine w_iload_n rfl rfl ?_
  refine w_iconst (n := 1) rfl rfl ?_
  refine w_iconst (n := 5) rfl rfl ?_
  refine w_static (as := [vi a1, vi 1, vi 5]) (r := []) rfl rfl rfl rfl rfl (m_in (fun h => ?_) (fun h => ?_))
  · show wm iv L h0 (d + 1) 63 6 [lr 307, li a1] [vi 1] s (qi F)
    replace H := H.1 h
    refine w_if_eq rfl (fun h => absurd h (by decide)) (fun _ => ?_)
    refine w_aload_n rfl rfl ?_
    refine m_geta (t := 0) (k := 6) rfl rfl ?_
    refine w_iload_n rfl rfl ?_
    obtain ⟨g1, H⟩ := H
    refine m_ald rfl (f := 1) (k := 6) rfl g1 ?_
    refine w_goto rfl ?_
    exact w_iret rfl rfl ⟨_, rfl, H⟩
  · show wm iv L h0 (d + 1) 63 6 [lr 307, li a1] [vi 0] s (qi F)
    replace H := H.2 h
    refine w_if_eq rfl (fun _ => ?_) (fun h => absurd h (by decide))
    refine w_iconst (n := (-1)) rfl rfl ?_
    exact w_iret rfl rfl ⟨_, rfl, H⟩

/-- HoleDeskModel.thereKind(III)I -/
theorem B64 {iv : List (Int × Int)} {L : Nat} {h0 : MH} {d : Nat} {s : SM} {a1 : Int} {a2 : Int} {a3 : Int} {F : Int → SM → Prop} (H : wm iv L h0 d 64 3 [lr 307, li a1, li a2, li a3, li 0] [] s (qi F)) : cm iv L h0 d 64 [vr 307, vi a1, vi a2, vi a3] s (qi F) := by
  show wm iv L h0 d 64 0 [lr 307, li a1, li a2, li a3] [] s (qi F)
  refine w_iconst (n := 0) rfl rfl ?_
  refine w_istore rfl rfl ?_
  exact wp_ls (sl_s (sl_s (sl_s (sl_s (sl_s (sl_0)))))) H

/-- HoleDeskModel.thereKind(III)I at 3 -/
theorem B64_3 {iv : List (Int × Int)} {L : Nat} {h0 : MH} {d : Nat} {s : SM} {l1 : Int} {l2 : Int} {l3 : Int} {l4 : Int} {F : Int → SM → Prop} (H : ((s.1 3 ≤ l4 → F (-9) s) ∧ (l4 < s.1 3 → ((l4 < s.1 2 → (0 ≤ l4 ∧ l4 < 6000) ∧ ((s.2 4 l4 ≠ l1 → (-2147483648 ≤ l4 + 1 ∧ l4 + 1 ≤ 2147483647) ∧ wm iv L h0 d 64 3 [lr 307, li l1, li l2, li l3, li (l4 + 1)] [] s (qi F)) ∧ (s.2 4 l4 = l1 → ((s.2 5 l4 ≠ l2 → (-2147483648 ≤ l4 + 1 ∧ l4 + 1 ≤ 2147483647) ∧ wm iv L h0 d 64 3 [lr 307, li l1, li l2, li l3, li (l4 + 1)] [] s (qi F)) ∧ (s.2 5 l4 = l2 → ((s.2 6 l4 ≠ l3 → (-2147483648 ≤ l4 + 1 ∧ l4 + 1 ≤ 2147483647) ∧ wm iv L h0 d 64 3 [lr 307, li l1, li l2, li l3, li (l4 + 1)] [] s (qi F)) ∧ (s.2 6 l4 = l3 → F l4 s))))))) ∧ (s.1 2 ≤ l4 → ((l4 < 40 → (-2147483648 ≤ l4 + 1 ∧ l4 + 1 ≤ 2147483647) ∧ wm iv L h0 d 64 3 [lr 307, li l1, li l2, li l3, li (l4 + 1)] [] s (qi F)) ∧ (40 ≤ l4 → (0 ≤ l4 ∧ l4 < 6000) ∧ ((s.2 4 l4 ≠ l1 → (-2147483648 ≤ l4 + 1 ∧ l4 + 1 ≤ 2147483647) ∧ wm iv L h0 d 64 3 [lr 307, li l1, li l2, li l3, li (l4 + 1)] [] s (qi F)) ∧ (s.2 4 l4 = l1 → ((s.2 5 l4 ≠ l2 → (-2147483648 ≤ l4 + 1 ∧ l4 + 1 ≤ 2147483647) ∧ wm iv L h0 d 64 3 [lr 307, li l1, li l2, li l3, li (l4 + 1)] [] s (qi F)) ∧ (s.2 5 l4 = l2 → ((s.2 6 l4 ≠ l3 → (-2147483648 ≤ l4 + 1 ∧ l4 + 1 ≤ 2147483647) ∧ wm iv L h0 d 64 3 [lr 307, li l1, li l2, li l3, li (l4 + 1)] [] s (qi F)) ∧ (s.2 6 l4 = l3 → F l4 s))))))))))))) : wm iv L h0 d 64 3 [lr 307, li l1, li l2, li l3, li l4] [] s (qi F) := by
  refine w_iload rfl rfl ?_
  refine w_aload_n rfl rfl ?_
  refine m_get rfl rfl ?_
  refine w_icmp_ge rfl (fun h => ?_) (fun h => ?_)
  · replace H := H.1 h
    refine w_bipush (n := (-9)) rfl rfl rfl ?_
    exact w_iret rfl rfl ⟨_, rfl, H⟩
  · replace H := H.2 h
    refine w_iload rfl rfl ?_
    refine w_aload_n rfl rfl ?_
    refine m_get rfl rfl ?_
    refine w_icmp_lt rfl (fun h => ?_) (fun h => ?_)
    · replace H := H.1 h
      refine w_aload_n rfl rfl ?_
      refine m_geta (t := 0) (k := 6000) rfl rfl ?_
      refine w_iload rfl rfl ?_
      obtain ⟨g1, H⟩ := H
      refine m_ald rfl (f := 4) (k := 6000) rfl g1 ?_
      refine w_iload_n rfl rfl ?_
      refine w_icmp_ne rfl (fun h => ?_) (fun h => ?_)
      · replace H := H.1 h
        obtain ⟨g2, H⟩ := H
        refine w_iinc rfl rfl rfl g2 ?_
        refine w_goto rfl ?_
        exact wp_ls (sl_s (sl_s (sl_s (sl_s (sl_s (sl_0)))))) H
      · replace H := H.2 h
        refine w_aload_n rfl rfl ?_
        refine m_geta (t := 0) (k := 6000) rfl rfl ?_
        refine w_iload rfl rfl ?_
        refine m_ald rfl (f := 5) (k := 6000) rfl g1 ?_
        refine w_iload_n rfl rfl ?_
        refine w_icmp_ne rfl (fun h => ?_) (fun h => ?_)
        · replace H := H.1 h
          obtain ⟨g3, H⟩ := H
          refine w_iinc rfl rfl rfl g3 ?_
          refine w_goto rfl ?_
          exact wp_ls (sl_s (sl_s (sl_s (sl_s (sl_s (sl_0)))))) H
        · replace H := H.2 h
          refine w_aload_n rfl rfl ?_
          refine m_geta (t := 0) (k := 6000) rfl rfl ?_
          refine w_iload rfl rfl ?_
          refine m_ald rfl (f := 6) (k := 6000) rfl g1 ?_
          refine w_iload_n rfl rfl ?_
          refine w_icmp_ne rfl (fun h => ?_) (fun h => ?_)
          · replace H := H.1 h
            obtain ⟨g4, H⟩ := H
            refine w_iinc rfl rfl rfl g4 ?_
            refine w_goto rfl ?_
            exact wp_ls (sl_s (sl_s (sl_s (sl_s (sl_s (sl_0)))))) H
          · replace H := H.2 h
            refine w_iload rfl rfl ?_
            exact w_iret rfl rfl ⟨_, rfl, H⟩
    · replace H := H.2 h
      refine w_iload rfl rfl ?_
      refine w_bipush (n := 40) rfl rfl rfl ?_
      refine w_icmp_lt rfl (fun h => ?_) (fun h => ?_)
      · replace H := H.1 h
        obtain ⟨g5, H⟩ := H
        refine w_iinc rfl rfl rfl g5 ?_
        refine w_goto rfl ?_
        exact wp_ls (sl_s (sl_s (sl_s (sl_s (sl_s (sl_0)))))) H
      · replace H := H.2 h
        refine w_aload_n rfl rfl ?_
        refine m_geta (t := 0) (k := 6000) rfl rfl ?_
        refine w_iload rfl rfl ?_
        obtain ⟨g6, H⟩ := H
        refine m_ald rfl (f := 4) (k := 6000) rfl g6 ?_
        refine w_iload_n rfl rfl ?_
        refine w_icmp_ne rfl (fun h => ?_) (fun h => ?_)
        · replace H := H.1 h
          obtain ⟨g7, H⟩ := H
          refine w_iinc rfl rfl rfl g7 ?_
          refine w_goto rfl ?_
          exact wp_ls (sl_s (sl_s (sl_s (sl_s (sl_s (sl_0)))))) H
        · replace H := H.2 h
          refine w_aload_n rfl rfl ?_
          refine m_geta (t := 0) (k := 6000) rfl rfl ?_
          refine w_iload rfl rfl ?_
          refine m_ald rfl (f := 5) (k := 6000) rfl g6 ?_
          refine w_iload_n rfl rfl ?_
          refine w_icmp_ne rfl (fun h => ?_) (fun h => ?_)
          · replace H := H.1 h
            obtain ⟨g8, H⟩ := H
            refine w_iinc rfl rfl rfl g8 ?_
            refine w_goto rfl ?_
            exact wp_ls (sl_s (sl_s (sl_s (sl_s (sl_s (sl_0)))))) H
          · replace H := H.2 h
            refine w_aload_n rfl rfl ?_
            refine m_geta (t := 0) (k := 6000) rfl rfl ?_
            refine w_iload rfl rfl ?_
            refine m_ald rfl (f := 6) (k := 6000) rfl g6 ?_
            refine w_iload_n rfl rfl ?_
            refine w_icmp_ne rfl (fun h => ?_) (fun h => ?_)
            · replace H := H.1 h
              obtain ⟨g9, H⟩ := H
              refine w_iinc rfl rfl rfl g9 ?_
              refine w_goto rfl ?_
              exact wp_ls (sl_s (sl_s (sl_s (sl_s (sl_s (sl_0)))))) H
            · replace H := H.2 h
              refine w_iload rfl rfl ?_
              exact w_iret rfl rfl ⟨_, rfl, H⟩

/-- HoleDeskModel.makeKind(III)I -/
theorem B65 {iv : List (Int × Int)} {L : Nat} {h0 : MH} {d : Nat} {s : SM} {a1 : Int} {a2 : Int} {a3 : Int} {F : Int → SM → Prop} (H : (0 ≤ a2 ∧ a2 < 6000) ∧ (-2147483648 ≤ 1 + (s.2 7 a2) ∧ 1 + (s.2 7 a2) ≤ 2147483647) ∧ (0 ≤ a3 ∧ a3 < 6000) ∧ (-2147483648 ≤ (1 + (s.2 7 a2)) + (s.2 7 a3) ∧ (1 + (s.2 7 a2)) + (s.2 7 a3) ≤ 2147483647) ∧ (((1 + (s.2 7 a2)) + (s.2 7 a3) ≤ 40 → cm iv L h0 d 64 [vr 307, vi a1, vi a2, vi a3] s (qi fun r6 s5 => ((r6 ≠ (-9) → F r6 s5) ∧ (r6 = (-9) → cm iv L h0 d 66 [vr 307, vi (s5.1 3), vi a1, vi a2, vi a3, vi ((1 + (s.2 7 a2)) + (s.2 7 a3))] s5 (qv fun s7 => (-2147483648 ≤ (s7.1 3) + 1 ∧ (s7.1 3) + 1 ≤ 2147483647) ∧ F (s5.1 3) (us s7 3 ((s7.1 3) + 1))))))) ∧ (40 < (1 + (s.2 7 a2)) + (s.2 7 a3) → F 0 s))) : cm iv L h0 (d + 1) 65 [vr 307, vi a1, vi a2, vi a3] s (qi F) := by
  show wm iv L h0 (d + 1) 65 0 [lr 307, li a1, li a2, li a3] [] s (qi F)
  refine w_iconst (n := 1) rfl rfl ?_
  refine w_aload_n rfl rfl ?_
  refine m_geta (t := 0) (k := 6000) rfl rfl ?_
  refine w_iload_n rfl rfl ?_
  obtain ⟨g1, H⟩ := H
  refine m_ald rfl (f := 7) (k := 6000) rfl g1 ?_
  obtain ⟨g2, H⟩ := H
  refine w_iadd rfl g2 ?_
  refine w_aload_n rfl rfl ?_
  refine m_geta (t := 0) (k := 6000) rfl rfl ?_
  refine w_iload_n rfl rfl ?_
  obtain ⟨g3, H⟩ := H
  refine m_ald rfl (f := 7) (k := 6000) rfl g3 ?_
  obtain ⟨g4, H⟩ := H
  refine w_iadd rfl g4 ?_
  refine w_istore rfl rfl ?_
  refine w_iload rfl rfl ?_
  refine w_bipush (n := 40) rfl rfl rfl ?_
  refine w_icmp_le rfl (fun h => ?_) (fun h => ?_)
  · replace H := H.1 h
    refine w_aload_n rfl rfl ?_
    refine w_iload_n rfl rfl ?_
    refine w_iload_n rfl rfl ?_
    refine w_iload_n rfl rfl ?_
    refine m_call (as := [vi a1, vi a2, vi a3]) (r := []) rfl rfl rfl rfl rfl rfl (wc_mono H (Nat.le_refl _) ?_)
    rintro _ s5 ⟨r6, rfl, H⟩
    show wm iv L h0 (d + 1) 65 33 [lr 307, li a1, li a2, li a3, li ((1 + (s.2 7 a2)) + (s.2 7 a3))] [vi r6] s5 (qi F)
    refine w_istore rfl rfl ?_
    refine w_iload rfl rfl ?_
    refine w_bipush (n := (-9)) rfl rfl rfl ?_
    refine w_icmp_ne rfl (fun h => ?_) (fun h => ?_)
    · replace H := H.1 h
      refine w_iload rfl rfl ?_
      exact w_iret rfl rfl ⟨_, rfl, H⟩
    · replace H := H.2 h
      refine w_aload_n rfl rfl ?_
      refine m_get rfl rfl ?_
      refine w_istore rfl rfl ?_
      refine w_aload_n rfl rfl ?_
      refine w_iload rfl rfl ?_
      refine w_iload_n rfl rfl ?_
      refine w_iload_n rfl rfl ?_
      refine w_iload_n rfl rfl ?_
      refine w_iload rfl rfl ?_
      refine m_call (as := [vi (s5.1 3), vi a1, vi a2, vi a3, vi ((1 + (s.2 7 a2)) + (s.2 7 a3))]) (r := []) rfl rfl rfl rfl rfl rfl (wc_mono H (Nat.le_refl _) ?_)
      rintro _ s7 ⟨rfl, H⟩
      show wm iv L h0 (d + 1) 65 59 [lr 307, li a1, li a2, li a3, li ((1 + (s.2 7 a2)) + (s.2 7 a3)), li (s5.1 3)] [] s7 (qi F)
      refine w_aload_n rfl rfl ?_
      refine w_dup rfl rfl ?_
      refine m_get rfl rfl ?_
      refine w_iconst (n := 1) rfl rfl ?_
      obtain ⟨g8, H⟩ := H
      refine w_iadd rfl g8 ?_
      refine m_put rfl rfl rfl ?_
      refine w_iload rfl rfl ?_
      exact w_iret rfl rfl ⟨_, rfl, H⟩
  · replace H := H.2 h
    refine w_iconst (n := 0) rfl rfl ?_
    exact w_iret rfl rfl ⟨_, rfl, H⟩

/-- HoleDeskModel.setKind(IIIII)V -/
theorem B66 {iv : List (Int × Int)} {L : Nat} {h0 : MH} {d : Nat} {s : SM} {a1 : Int} {a2 : Int} {a3 : Int} {a4 : Int} {a5 : Int} {F : SM → Prop} (H : (0 ≤ a1 ∧ a1 < 6000) ∧ F (ua (ua (ua (ua s 4 a1 a2) 5 a1 a3) 6 a1 a4) 7 a1 a5)) : cm iv L h0 d 66 [vr 307, vi a1, vi a2, vi a3, vi a4, vi a5] s (qv F) := by
  show wm iv L h0 d 66 0 [lr 307, li a1, li a2, li a3, li a4, li a5] [] s (qv F)
  refine w_aload_n rfl rfl ?_
  refine m_geta (t := 0) (k := 6000) rfl rfl ?_
  refine w_iload_n rfl rfl ?_
  refine w_iload_n rfl rfl ?_
  obtain ⟨g1, H⟩ := H
  refine m_ast rfl (f := 4) (k := 6000) rfl g1 ?_
  refine w_aload_n rfl rfl ?_
  refine m_geta (t := 0) (k := 6000) rfl rfl ?_
  refine w_iload_n rfl rfl ?_
  refine w_iload_n rfl rfl ?_
  refine m_ast rfl (f := 5) (k := 6000) rfl g1 ?_
  refine w_aload_n rfl rfl ?_
  refine m_geta (t := 0) (k := 6000) rfl rfl ?_
  refine w_iload_n rfl rfl ?_
  refine w_iload rfl rfl ?_
  refine m_ast rfl (f := 6) (k := 6000) rfl g1 ?_
  refine w_aload_n rfl rfl ?_
  refine m_geta (t := 0) (k := 6000) rfl rfl ?_
  refine w_iload_n rfl rfl ?_
  refine w_iload rfl rfl ?_
  refine m_ast rfl (f := 7) (k := 6000) rfl g1 ?_
  exact w_ret rfl rfl ⟨rfl, H⟩

/-- HoleDeskModel.kind(ZII)I -/
theorem B68 {iv : List (Int × Int)} {L : Nat} {h0 : MH} {d : Nat} {s : SM} {a1 : Int} {a2 : Int} {a3 : Int} {F : Int → SM → Prop} (H : (3 ≤ s.1 2 ∧ s.1 2 ≤ 40) ∧ ((0 ≤ a2 ∧ a2 < s.1 2 → ((0 ≤ a3 ∧ a3 < s.1 2 → (0 ≤ a2 ∧ a2 < 6000) ∧ (-2147483648 ≤ 1 + (s.2 7 a2) ∧ 1 + (s.2 7 a2) ≤ 2147483647) ∧ (0 ≤ a3 ∧ a3 < 6000) ∧ (-2147483648 ≤ (1 + (s.2 7 a2)) + (s.2 7 a3) ∧ (1 + (s.2 7 a2)) + (s.2 7 a3) ≤ 2147483647) ∧ (((1 + (s.2 7 a2)) + (s.2 7 a3) ≤ 40 → ((a1 = 0 → wm iv L h0 (d + 2) 68 52 [lr 307, ln, li a2, li a3, li 3, li 3] [] s (qi F)) ∧ (a1 ≠ 0 → wm iv L h0 (d + 2) 68 52 [lr 307, ln, li a2, li a3, li 4, li 3] [] s (qi F)))) ∧ (40 < (1 + (s.2 7 a2)) + (s.2 7 a3) → F (-1) s))) ∧ (a3 < 0 ∨ s.1 2 ≤ a3 → F (-1) s))) ∧ (a2 < 0 ∨ s.1 2 ≤ a2 → F (-1) s))) : cm iv L h0 (d + 2) 68 [vr 307, vi a1, vi a2, vi a3] s (qi F) := by
  show wm iv L h0 (d + 2) 68 0 [lr 307, li a1, li a2, li a3] [] s (qi F)
  refine w_aload_n rfl rfl ?_
  refine w_iload_n rfl rfl ?_
  obtain ⟨g1, H⟩ := H
  refine m_call (as := [vi a2]) (r := []) rfl rfl rfl rfl rfl rfl (m_isKind g1 (fun h => ?_) (fun h => ?_))
  · show wm iv L h0 (d + 2) 68 5 [lr 307, li a1, li a2, li a3] [vi 1] s (qi F)
    replace H := H.1 h
    refine w_if_eq rfl (fun h => absurd h (by decide)) (fun _ => ?_)
    refine w_aload_n rfl rfl ?_
    refine w_iload_n rfl rfl ?_
    refine m_call (as := [vi a3]) (r := []) rfl rfl rfl rfl rfl rfl (m_isKind g1 (fun h => ?_) (fun h => ?_))
    · show wm iv L h0 (d + 2) 68 13 [lr 307, li a1, li a2, li a3] [vi 1] s (qi F)
      replace H := H.1 h
      refine w_if_eq rfl (fun h => absurd h (by decide)) (fun _ => ?_)
      refine w_iconst (n := 1) rfl rfl ?_
      refine w_aload_n rfl rfl ?_
      refine m_geta (t := 0) (k := 6000) rfl rfl ?_
      refine w_iload_n rfl rfl ?_
      obtain ⟨g2, H⟩ := H
      refine m_ald rfl (f := 7) (k := 6000) rfl g2 ?_
      obtain ⟨g3, H⟩ := H
      refine w_iadd rfl g3 ?_
      refine w_aload_n rfl rfl ?_
      refine m_geta (t := 0) (k := 6000) rfl rfl ?_
      refine w_iload_n rfl rfl ?_
      obtain ⟨g4, H⟩ := H
      refine m_ald rfl (f := 7) (k := 6000) rfl g4 ?_
      obtain ⟨g5, H⟩ := H
      refine w_iadd rfl g5 ?_
      refine w_bipush (n := 40) rfl rfl rfl ?_
      refine w_icmp_le rfl (fun h => ?_) (fun h => ?_)
      · replace H := H.1 h
        refine w_iload_n rfl rfl ?_
        refine w_if_eq rfl (fun h => ?_) (fun h => ?_)
        · replace H := H.1 h
          refine w_iconst (n := 3) rfl rfl ?_
          refine w_istore rfl rfl ?_
          refine w_iconst (n := 3) rfl rfl ?_
          refine w_istore rfl rfl ?_
          exact wp_ls (sl_s (sl_n (sl_s (sl_s (sl_s (sl_s (sl_0))))))) H
        · replace H := H.2 h
          refine w_iconst (n := 4) rfl rfl ?_
          refine w_goto rfl ?_
          refine w_istore rfl rfl ?_
          refine w_iconst (n := 3) rfl rfl ?_
          refine w_istore rfl rfl ?_
          exact wp_ls (sl_s (sl_n (sl_s (sl_s (sl_s (sl_s (sl_0))))))) H
      · replace H := H.2 h
        refine w_iconst (n := (-1)) rfl rfl ?_
        exact w_iret rfl rfl ⟨_, rfl, H⟩
    · show wm iv L h0 (d + 2) 68 13 [lr 307, li a1, li a2, li a3] [vi 0] s (qi F)
      replace H := H.2 h
      refine w_if_eq rfl (fun _ => ?_) (fun h => absurd h (by decide))
      refine w_iconst (n := (-1)) rfl rfl ?_
      exact w_iret rfl rfl ⟨_, rfl, H⟩
  · show wm iv L h0 (d + 2) 68 5 [lr 307, li a1, li a2, li a3] [vi 0] s (qi F)
    replace H := H.2 h
    refine w_if_eq rfl (fun _ => ?_) (fun h => absurd h (by decide))
    refine w_iconst (n := (-1)) rfl rfl ?_
    exact w_iret rfl rfl ⟨_, rfl, H⟩

/-- HoleDeskModel.kind(ZII)I at 52 -/
theorem B68_52 {iv : List (Int × Int)} {L : Nat} {h0 : MH} {d : Nat} {s : SM} {l2 : Int} {l3 : Int} {l4 : Int} {l5 : Int} {F : Int → SM → Prop} (H : ((s.1 2 ≤ l5 → ((s.1 2 ≠ 40 → (0 ≤ l2 ∧ l2 < 6000) ∧ (-2147483648 ≤ 1 + (s.2 7 l2) ∧ 1 + (s.2 7 l2) ≤ 2147483647) ∧ (0 ≤ l3 ∧ l3 < 6000) ∧ (-2147483648 ≤ (1 + (s.2 7 l2)) + (s.2 7 l3) ∧ (1 + (s.2 7 l2)) + (s.2 7 l3) ≤ 2147483647) ∧ cm iv L h0 (d + 1) 66 [vr 307, vi (s.1 2), vi l4, vi l2, vi l3, vi ((1 + (s.2 7 l2)) + (s.2 7 l3))] s (qv fun s5 => (-2147483648 ≤ (s5.1 2) + 1 ∧ (s5.1 2) + 1 ≤ 2147483647) ∧ (-2147483648 ≤ ((s5.1 2) + 1) - 1 ∧ ((s5.1 2) + 1) - 1 ≤ 2147483647) ∧ F (((s5.1 2) + 1) - 1) (us s5 2 ((s5.1 2) + 1)))) ∧ (s.1 2 = 40 → F (-2) s))) ∧ (l5 < s.1 2 → (0 ≤ l5 ∧ l5 < 6000) ∧ ((s.2 4 l5 ≠ l4 → (-2147483648 ≤ l5 + 1 ∧ l5 + 1 ≤ 2147483647) ∧ wm iv L h0 (d + 2) 68 52 [lr 307, ln, li l2, li l3, li l4, li (l5 + 1)] [] s (qi F)) ∧ (s.2 4 l5 = l4 → ((s.2 5 l5 ≠ l2 → (-2147483648 ≤ l5 + 1 ∧ l5 + 1 ≤ 2147483647) ∧ wm iv L h0 (d + 2) 68 52 [lr 307, ln, li l2, li l3, li l4, li (l5 + 1)] [] s (qi F)) ∧ (s.2 5 l5 = l2 → ((s.2 6 l5 ≠ l3 → (-2147483648 ≤ l5 + 1 ∧ l5 + 1 ≤ 2147483647) ∧ wm iv L h0 (d + 2) 68 52 [lr 307, ln, li l2, li l3, li l4, li (l5 + 1)] [] s (qi F)) ∧ (s.2 6 l5 = l3 → F l5 s))))))))) : wm iv L h0 (d + 2) 68 52 [lr 307, ln, li l2, li l3, li l4, li l5] [] s (qi F) := by
  refine w_iload rfl rfl ?_
  refine w_aload_n rfl rfl ?_
  refine m_get rfl rfl ?_
  refine w_icmp_ge rfl (fun h => ?_) (fun h => ?_)
  · replace H := H.1 h
    refine w_aload_n rfl rfl ?_
    refine m_get rfl rfl ?_
    refine w_bipush (n := 40) rfl rfl rfl ?_
    refine w_icmp_ne rfl (fun h => ?_) (fun h => ?_)
    · replace H := H.1 h
      refine w_aload_n rfl rfl ?_
      refine w_aload_n rfl rfl ?_
      refine m_get rfl rfl ?_
      refine w_iload rfl rfl ?_
      refine w_iload_n rfl rfl ?_
      refine w_iload_n rfl rfl ?_
      refine w_iconst (n := 1) rfl rfl ?_
      refine w_aload_n rfl rfl ?_
      refine m_geta (t := 0) (k := 6000) rfl rfl ?_
      refine w_iload_n rfl rfl ?_
      obtain ⟨g1, H⟩ := H
      refine m_ald rfl (f := 7) (k := 6000) rfl g1 ?_
      obtain ⟨g2, H⟩ := H
      refine w_iadd rfl g2 ?_
      refine w_aload_n rfl rfl ?_
      refine m_geta (t := 0) (k := 6000) rfl rfl ?_
      refine w_iload_n rfl rfl ?_
      obtain ⟨g3, H⟩ := H
      refine m_ald rfl (f := 7) (k := 6000) rfl g3 ?_
      obtain ⟨g4, H⟩ := H
      refine w_iadd rfl g4 ?_
      refine m_call (as := [vi (s.1 2), vi l4, vi l2, vi l3, vi ((1 + (s.2 7 l2)) + (s.2 7 l3))]) (r := []) rfl rfl rfl rfl rfl rfl (wc_mono H (Nat.le_refl _) ?_)
      rintro _ s5 ⟨rfl, H⟩
      show wm iv L h0 (d + 2) 68 143 [lr 307, ln, li l2, li l3, li l4, li l5] [] s5 (qi F)
      refine w_aload_n rfl rfl ?_
      refine w_dup rfl rfl ?_
      refine m_get rfl rfl ?_
      refine w_iconst (n := 1) rfl rfl ?_
      obtain ⟨g6, H⟩ := H
      refine w_iadd rfl g6 ?_
      refine m_put rfl rfl rfl ?_
      refine w_aload_n rfl rfl ?_
      refine m_get rfl rfl ?_
      show wm iv L h0 (d + 2) 68 157 [lr 307, ln, li l2, li l3, li l4, li l5] [vi ((s5.1 2) + 1)] (us s5 2 ((s5.1 2) + 1)) (qi F)
      refine w_iconst (n := 1) rfl rfl ?_
      obtain ⟨g7, H⟩ := H
      refine w_isub rfl g7 ?_
      exact w_iret rfl rfl ⟨_, rfl, H⟩
    · replace H := H.2 h
      refine w_bipush (n := (-2)) rfl rfl rfl ?_
      exact w_iret rfl rfl ⟨_, rfl, H⟩
  · replace H := H.2 h
    refine w_aload_n rfl rfl ?_
    refine m_geta (t := 0) (k := 6000) rfl rfl ?_
    refine w_iload rfl rfl ?_
    obtain ⟨g8, H⟩ := H
    refine m_ald rfl (f := 4) (k := 6000) rfl g8 ?_
    refine w_iload rfl rfl ?_
    refine w_icmp_ne rfl (fun h => ?_) (fun h => ?_)
    · replace H := H.1 h
      obtain ⟨g9, H⟩ := H
      refine w_iinc rfl rfl rfl g9 ?_
      refine w_goto rfl ?_
      exact wp_ls (sl_s (sl_n (sl_s (sl_s (sl_s (sl_s (sl_0))))))) H
    · replace H := H.2 h
      refine w_aload_n rfl rfl ?_
      refine m_geta (t := 0) (k := 6000) rfl rfl ?_
      refine w_iload rfl rfl ?_
      refine m_ald rfl (f := 5) (k := 6000) rfl g8 ?_
      refine w_iload_n rfl rfl ?_
      refine w_icmp_ne rfl (fun h => ?_) (fun h => ?_)
      · replace H := H.1 h
        obtain ⟨g10, H⟩ := H
        refine w_iinc rfl rfl rfl g10 ?_
        refine w_goto rfl ?_
        exact wp_ls (sl_s (sl_n (sl_s (sl_s (sl_s (sl_s (sl_0))))))) H
      · replace H := H.2 h
        refine w_aload_n rfl rfl ?_
        refine m_geta (t := 0) (k := 6000) rfl rfl ?_
        refine w_iload rfl rfl ?_
        refine m_ald rfl (f := 6) (k := 6000) rfl g8 ?_
        refine w_iload_n rfl rfl ?_
        refine w_icmp_ne rfl (fun h => ?_) (fun h => ?_)
        · replace H := H.1 h
          obtain ⟨g11, H⟩ := H
          refine w_iinc rfl rfl rfl g11 ?_
          refine w_goto rfl ?_
          exact wp_ls (sl_s (sl_n (sl_s (sl_s (sl_s (sl_s (sl_0))))))) H
        · replace H := H.2 h
          refine w_iload rfl rfl ?_
          exact w_iret rfl rfl ⟨_, rfl, H⟩

/-- HoleDeskModel.kindOf(II)I -/
theorem B69 {iv : List (Int × Int)} {L : Nat} {h0 : MH} {d : Nat} {s : SM} {a1 : Int} {a2 : Int} {F : Int → SM → Prop} (H : (3 ≤ s.1 2 ∧ s.1 2 ≤ 40) ∧ ((0 ≤ a1 ∧ a1 < s.1 2 → ((0 ≤ a2 ∧ a2 ≤ 3 → ((a2 ≠ 0 → ((a2 ≠ 1 → ((a2 ≠ 2 → (0 ≤ a1 ∧ a1 < 6000) ∧ F (s.2 7 a1) s) ∧ (a2 = 2 → (0 ≤ a1 ∧ a1 < 6000) ∧ F (s.2 6 a1) s))) ∧ (a2 = 1 → (0 ≤ a1 ∧ a1 < 6000) ∧ F (s.2 5 a1) s))) ∧ (a2 = 0 → (0 ≤ a1 ∧ a1 < 6000) ∧ F (s.2 4 a1) s))) ∧ (a2 < 0 ∨ 3 < a2 → F (-1) s))) ∧ (a1 < 0 ∨ s.1 2 ≤ a1 → F (-1) s))) : cm iv L h0 (d + 2) 69 [vr 307, vi a1, vi a2] s (qi F) := by
  show wm iv L h0 (d + 2) 69 0 [lr 307, li a1, li a2] [] s (qi F)
  refine w_aload_n rfl rfl ?_
  refine w_iload_n rfl rfl ?_
  obtain ⟨g1, H⟩ := H
  refine m_call (as := [vi a1]) (r := []) rfl rfl rfl rfl rfl rfl (m_isKind g1 (fun h => ?_) (fun h => ?_))
  · show wm iv L h0 (d + 2) 69 5 [lr 307, li a1, li a2] [vi 1] s (qi F)
    replace H := H.1 h
    refine w_if_eq rfl (fun h => absurd h (by decide)) (fun _ => ?_)
    refine w_iload_n rfl rfl ?_
    refine w_iconst (n := 0) rfl rfl ?_
    refine w_iconst (n := 3) rfl rfl ?_
    refine w_static (as := [vi a2, vi 0, vi 3]) (r := []) rfl rfl rfl rfl rfl (m_in (fun h => ?_) (fun h => ?_))
    · show wm iv L h0 (d + 2) 69 14 [lr 307, li a1, li a2] [vi 1] s (qi F)
      replace H := H.1 h
      refine w_if_ne rfl (fun _ => ?_) (fun h => absurd h (by decide))
      refine w_iload_n rfl rfl ?_
      refine w_if_ne rfl (fun h => ?_) (fun h => ?_)
      · replace H := H.1 h
        refine w_iload_n rfl rfl ?_
        refine w_iconst (n := 1) rfl rfl ?_
        refine w_icmp_ne rfl (fun h => ?_) (fun h => ?_)
        · replace H := H.1 h
          refine w_iload_n rfl rfl ?_
          refine w_iconst (n := 2) rfl rfl ?_
          refine w_icmp_ne rfl (fun h => ?_) (fun h => ?_)
          · replace H := H.1 h
            refine w_aload_n rfl rfl ?_
            refine m_geta (t := 0) (k := 6000) rfl rfl ?_
            refine w_iload_n rfl rfl ?_
            obtain ⟨g2, H⟩ := H
            refine m_ald rfl (f := 7) (k := 6000) rfl g2 ?_
            exact w_iret rfl rfl ⟨_, rfl, H⟩
          · replace H := H.2 h
            refine w_aload_n rfl rfl ?_
            refine m_geta (t := 0) (k := 6000) rfl rfl ?_
            refine w_iload_n rfl rfl ?_
            obtain ⟨g3, H⟩ := H
            refine m_ald rfl (f := 6) (k := 6000) rfl g3 ?_
            refine w_goto rfl ?_
            exact w_iret rfl rfl ⟨_, rfl, H⟩
        · replace H := H.2 h
          refine w_aload_n rfl rfl ?_
          refine m_geta (t := 0) (k := 6000) rfl rfl ?_
          refine w_iload_n rfl rfl ?_
          obtain ⟨g4, H⟩ := H
          refine m_ald rfl (f := 5) (k := 6000) rfl g4 ?_
          refine w_goto rfl ?_
          exact w_iret rfl rfl ⟨_, rfl, H⟩
      · replace H := H.2 h
        refine w_aload_n rfl rfl ?_
        refine m_geta (t := 0) (k := 6000) rfl rfl ?_
        refine w_iload_n rfl rfl ?_
        obtain ⟨g5, H⟩ := H
        refine m_ald rfl (f := 4) (k := 6000) rfl g5 ?_
        refine w_goto rfl ?_
        exact w_iret rfl rfl ⟨_, rfl, H⟩
    · show wm iv L h0 (d + 2) 69 14 [lr 307, li a1, li a2] [vi 0] s (qi F)
      replace H := H.2 h
      refine w_if_ne rfl (fun h => absurd h (by decide)) (fun _ => ?_)
      refine w_iconst (n := (-1)) rfl rfl ?_
      exact w_iret rfl rfl ⟨_, rfl, H⟩
  · show wm iv L h0 (d + 2) 69 5 [lr 307, li a1, li a2] [vi 0] s (qi F)
    replace H := H.2 h
    refine w_if_eq rfl (fun _ => ?_) (fun h => absurd h (by decide))
    refine w_iconst (n := (-1)) rfl rfl ?_
    exact w_iret rfl rfl ⟨_, rfl, H⟩

/-- HoleDeskModel.areMeeting(II)Z -/
theorem B70 {iv : List (Int × Int)} {L : Nat} {h0 : MH} {d : Nat} {s : SM} {a1 : Int} {a2 : Int} {F : Int → SM → Prop} (H : ((a1 = 0 → F 1 s) ∧ (a1 ≠ 0 → ((a2 ≠ 0 → (0 ≤ a1 ∧ a1 < 6000) ∧ (0 ≤ a2 ∧ a2 < 6000) ∧ ((s.2 4 a1 = s.2 4 a2 → ((s.2 4 a1 < 3 → F 1 s) ∧ (3 ≤ s.2 4 a1 → cm iv L h0 d 70 [vr 307, vi (s.2 5 a1), vi (s.2 5 a2)] s (qi fun r4 s3 => ((r4 = 0 → F 0 s3) ∧ (r4 ≠ 0 → cm iv L h0 d 70 [vr 307, vi (s3.2 6 a1), vi (s3.2 6 a2)] s3 (qi fun r6 s5 => ((r6 = 0 → F 0 s5) ∧ (r6 ≠ 0 → F 1 s5))))))))) ∧ (s.2 4 a1 ≠ s.2 4 a2 → F 0 s))) ∧ (a2 = 0 → F 1 s))))) : cm iv L h0 (d + 1) 70 [vr 307, vi a1, vi a2] s (qi F) := by
  show wm iv L h0 (d + 1) 70 0 [lr 307, li a1, li a2] [] s (qi F)
  refine w_iload_n rfl rfl ?_
  refine w_if_eq rfl (fun h => ?_) (fun h => ?_)
  · replace H := H.1 h
    refine w_iconst (n := 1) rfl rfl ?_
    exact w_iretz rfl rfl (by decide) ⟨_, rfl, H⟩
  · replace H := H.2 h
    refine w_iload_n rfl rfl ?_
    refine w_if_ne rfl (fun h => ?_) (fun h => ?_)
    · replace H := H.1 h
      refine w_aload_n rfl rfl ?_
      refine m_geta (t := 0) (k := 6000) rfl rfl ?_
      refine w_iload_n rfl rfl ?_
      obtain ⟨g1, H⟩ := H
      refine m_ald rfl (f := 4) (k := 6000) rfl g1 ?_
      refine w_aload_n rfl rfl ?_
      refine m_geta (t := 0) (k := 6000) rfl rfl ?_
      refine w_iload_n rfl rfl ?_
      obtain ⟨g2, H⟩ := H
      refine m_ald rfl (f := 4) (k := 6000) rfl g2 ?_
      refine w_icmp_eq rfl (fun h => ?_) (fun h => ?_)
      · replace H := H.1 h
        refine w_aload_n rfl rfl ?_
        refine m_geta (t := 0) (k := 6000) rfl rfl ?_
        refine w_iload_n rfl rfl ?_
        refine m_ald rfl (f := 4) (k := 6000) rfl g1 ?_
        refine w_iconst (n := 3) rfl rfl ?_
        refine w_icmp_lt rfl (fun h => ?_) (fun h => ?_)
        · replace H := H.1 h
          refine w_iconst (n := 1) rfl rfl ?_
          refine w_goto rfl ?_
          exact w_iretz rfl rfl (by decide) ⟨_, rfl, H⟩
        · replace H := H.2 h
          refine w_aload_n rfl rfl ?_
          refine w_aload_n rfl rfl ?_
          refine m_geta (t := 0) (k := 6000) rfl rfl ?_
          refine w_iload_n rfl rfl ?_
          refine m_ald rfl (f := 5) (k := 6000) rfl g1 ?_
          refine w_aload_n rfl rfl ?_
          refine m_geta (t := 0) (k := 6000) rfl rfl ?_
          refine w_iload_n rfl rfl ?_
          refine m_ald rfl (f := 5) (k := 6000) rfl g2 ?_
          refine m_call (as := [vi (s.2 5 a1), vi (s.2 5 a2)]) (r := []) rfl rfl rfl rfl rfl rfl (wc_mono H (Nat.le_refl _) ?_)
          rintro _ s3 ⟨r4, rfl, H⟩
          show wm iv L h0 (d + 1) 70 53 [lr 307, li a1, li a2] [vi r4] s3 (qi F)
          refine w_if_eq rfl (fun h => ?_) (fun h => ?_)
          · replace H := H.1 h
            refine w_iconst (n := 0) rfl rfl ?_
            exact w_iretz rfl rfl (by decide) ⟨_, rfl, H⟩
          · replace H := H.2 h
            refine w_aload_n rfl rfl ?_
            refine w_aload_n rfl rfl ?_
            refine m_geta (t := 0) (k := 6000) rfl rfl ?_
            refine w_iload_n rfl rfl ?_
            refine m_ald rfl (f := 6) (k := 6000) rfl g1 ?_
            refine w_aload_n rfl rfl ?_
            refine m_geta (t := 0) (k := 6000) rfl rfl ?_
            refine w_iload_n rfl rfl ?_
            refine m_ald rfl (f := 6) (k := 6000) rfl g2 ?_
            refine m_call (as := [vi (s3.2 6 a1), vi (s3.2 6 a2)]) (r := []) rfl rfl rfl rfl rfl rfl (wc_mono H (Nat.le_refl _) ?_)
            rintro _ s5 ⟨r6, rfl, H⟩
            show wm iv L h0 (d + 1) 70 72 [lr 307, li a1, li a2] [vi r6] s5 (qi F)
            refine w_if_eq rfl (fun h => ?_) (fun h => ?_)
            · replace H := H.1 h
              refine w_iconst (n := 0) rfl rfl ?_
              exact w_iretz rfl rfl (by decide) ⟨_, rfl, H⟩
            · replace H := H.2 h
              refine w_iconst (n := 1) rfl rfl ?_
              refine w_goto rfl ?_
              exact w_iretz rfl rfl (by decide) ⟨_, rfl, H⟩
      · replace H := H.2 h
        refine w_iconst (n := 0) rfl rfl ?_
        exact w_iretz rfl rfl (by decide) ⟨_, rfl, H⟩
    · replace H := H.2 h
      refine w_iconst (n := 1) rfl rfl ?_
      exact w_iretz rfl rfl (by decide) ⟨_, rfl, H⟩

/-- HoleDeskModel.together(II)I -/
theorem B71 {iv : List (Int × Int)} {L : Nat} {h0 : MH} {d : Nat} {s : SM} {a1 : Int} {a2 : Int} {F : Int → SM → Prop} (H : ((a1 ≠ 0 → ((a2 = 0 → F a1 s) ∧ (a2 ≠ 0 → (0 ≤ a1 ∧ a1 < 6000) ∧ ((3 ≤ s.2 4 a1 → (0 ≤ a2 ∧ a2 < 6000) ∧ cm iv L h0 d 71 [vr 307, vi (s.2 5 a1), vi (s.2 5 a2)] s (qi fun r4 s3 => cm iv L h0 d 71 [vr 307, vi (s3.2 6 a1), vi (s3.2 6 a2)] s3 (qi fun r6 s5 => cm iv L h0 d 65 [vr 307, vi (s.2 4 a1), vi r4, vi r6] s5 (qi fun r8 s7 => F r8 s7)))) ∧ (s.2 4 a1 < 3 → F a1 s))))) ∧ (a1 = 0 → F a2 s))) : cm iv L h0 (d + 1) 71 [vr 307, vi a1, vi a2] s (qi F) := by
  show wm iv L h0 (d + 1) 71 0 [lr 307, li a1, li a2] [] s (qi F)
  refine w_iload_n rfl rfl ?_
  refine w_if_ne rfl (fun h => ?_) (fun h => ?_)
  · replace H := H.1 h
    refine w_iload_n rfl rfl ?_
    refine w_if_eq rfl (fun h => ?_) (fun h => ?_)
    · replace H := H.1 h
      refine w_iload_n rfl rfl ?_
      exact w_iret rfl rfl ⟨_, rfl, H⟩
    · replace H := H.2 h
      refine w_aload_n rfl rfl ?_
      refine m_geta (t := 0) (k := 6000) rfl rfl ?_
      refine w_iload_n rfl rfl ?_
      obtain ⟨g1, H⟩ := H
      refine m_ald rfl (f := 4) (k := 6000) rfl g1 ?_
      refine w_iconst (n := 3) rfl rfl ?_
      refine w_icmp_ge rfl (fun h => ?_) (fun h => ?_)
      · replace H := H.1 h
        refine w_aload_n rfl rfl ?_
        refine w_aload_n rfl rfl ?_
        refine m_geta (t := 0) (k := 6000) rfl rfl ?_
        refine w_iload_n rfl rfl ?_
        refine m_ald rfl (f := 4) (k := 6000) rfl g1 ?_
        refine w_aload_n rfl rfl ?_
        refine w_aload_n rfl rfl ?_
        refine m_geta (t := 0) (k := 6000) rfl rfl ?_
        refine w_iload_n rfl rfl ?_
        refine m_ald rfl (f := 5) (k := 6000) rfl g1 ?_
        refine w_aload_n rfl rfl ?_
        refine m_geta (t := 0) (k := 6000) rfl rfl ?_
        refine w_iload_n rfl rfl ?_
        obtain ⟨g2, H⟩ := H
        refine m_ald rfl (f := 5) (k := 6000) rfl g2 ?_
        refine m_call (as := [vi (s.2 5 a1), vi (s.2 5 a2)]) (r := [vi (s.2 4 a1), vr 307]) rfl rfl rfl rfl rfl rfl (wc_mono H (Nat.le_refl _) ?_)
        rintro _ s3 ⟨r4, rfl, H⟩
        show wm iv L h0 (d + 1) 71 45 [lr 307, li a1, li a2] [vi r4, vi (s.2 4 a1), vr 307] s3 (qi F)
        refine w_aload_n rfl rfl ?_
        refine w_aload_n rfl rfl ?_
        refine m_geta (t := 0) (k := 6000) rfl rfl ?_
        refine w_iload_n rfl rfl ?_
        refine m_ald rfl (f := 6) (k := 6000) rfl g1 ?_
        refine w_aload_n rfl rfl ?_
        refine m_geta (t := 0) (k := 6000) rfl rfl ?_
        refine w_iload_n rfl rfl ?_
        refine m_ald rfl (f := 6) (k := 6000) rfl g2 ?_
        refine m_call (as := [vi (s3.2 6 a1), vi (s3.2 6 a2)]) (r := [vi r4, vi (s.2 4 a1), vr 307]) rfl rfl rfl rfl rfl rfl (wc_mono H (Nat.le_refl _) ?_)
        rintro _ s5 ⟨r6, rfl, H⟩
        show wm iv L h0 (d + 1) 71 61 [lr 307, li a1, li a2] [vi r6, vi r4, vi (s.2 4 a1), vr 307] s5 (qi F)
        refine m_call (as := [vi (s.2 4 a1), vi r4, vi r6]) (r := []) rfl rfl rfl rfl rfl rfl (wc_mono H (Nat.le_refl _) ?_)
        rintro _ s7 ⟨r8, rfl, H⟩
        show wm iv L h0 (d + 1) 71 64 [lr 307, li a1, li a2] [vi r8] s7 (qi F)
        exact w_iret rfl rfl ⟨_, rfl, H⟩
      · replace H := H.2 h
        refine w_iload_n rfl rfl ?_
        exact w_iret rfl rfl ⟨_, rfl, H⟩
  · replace H := H.2 h
    refine w_iload_n rfl rfl ?_
    exact w_iret rfl rfl ⟨_, rfl, H⟩

/-- HoleDeskModel.meet(II)I -/
theorem B72 {iv : List (Int × Int)} {L : Nat} {h0 : MH} {d : Nat} {s : SM} {a1 : Int} {a2 : Int} {F : Int → SM → Prop} (H : (3 ≤ s.1 2 ∧ s.1 2 ≤ 40) ∧ ((0 ≤ a1 ∧ a1 < s.1 2 → ((0 ≤ a2 ∧ a2 < s.1 2 → cm iv L h0 (d + 1) 70 [vr 307, vi a1, vi a2] s (qi fun r3 s2 => ((r3 = 0 → F 0 s2) ∧ (r3 ≠ 0 → F 1 s2)))) ∧ (a2 < 0 ∨ s.1 2 ≤ a2 → F (-1) s))) ∧ (a1 < 0 ∨ s.1 2 ≤ a1 → F (-1) s))) : cm iv L h0 (d + 2) 72 [vr 307, vi a1, vi a2] s (qi F) := by
  show wm iv L h0 (d + 2) 72 0 [lr 307, li a1, li a2] [] s (qi F)
  refine w_aload_n rfl rfl ?_
  refine w_iload_n rfl rfl ?_
  obtain ⟨g1, H⟩ := H
  refine m_call (as := [vi a1]) (r := []) rfl rfl rfl rfl rfl rfl (m_isKind g1 (fun h => ?_) (fun h => ?_))
  · show wm iv L h0 (d + 2) 72 5 [lr 307, li a1, li a2] [vi 1] s (qi F)
    replace H := H.1 h
    refine w_if_eq rfl (fun h => absurd h (by decide)) (fun _ => ?_)
    refine w_aload_n rfl rfl ?_
    refine w_iload_n rfl rfl ?_
    refine m_call (as := [vi a2]) (r := []) rfl rfl rfl rfl rfl rfl (m_isKind g1 (fun h => ?_) (fun h => ?_))
    · show wm iv L h0 (d + 2) 72 13 [lr 307, li a1, li a2] [vi 1] s (qi F)
      replace H := H.1 h
      refine w_if_ne rfl (fun _ => ?_) (fun h => absurd h (by decide))
      refine w_aload_n rfl rfl ?_
      refine w_iload_n rfl rfl ?_
      refine w_iload_n rfl rfl ?_
      refine m_call (as := [vi a1, vi a2]) (r := []) rfl rfl rfl rfl rfl rfl (wc_mono H (Nat.le_refl _) ?_)
      rintro _ s2 ⟨r3, rfl, H⟩
      show wm iv L h0 (d + 2) 72 26 [lr 307, li a1, li a2] [vi r3] s2 (qi F)
      refine w_if_eq rfl (fun h => ?_) (fun h => ?_)
      · replace H := H.1 h
        refine w_iconst (n := 0) rfl rfl ?_
        exact w_iret rfl rfl ⟨_, rfl, H⟩
      · replace H := H.2 h
        refine w_iconst (n := 1) rfl rfl ?_
        refine w_goto rfl ?_
        exact w_iret rfl rfl ⟨_, rfl, H⟩
    · show wm iv L h0 (d + 2) 72 13 [lr 307, li a1, li a2] [vi 0] s (qi F)
      replace H := H.2 h
      refine w_if_ne rfl (fun h => absurd h (by decide)) (fun _ => ?_)
      refine w_iconst (n := (-1)) rfl rfl ?_
      refine w_goto rfl ?_
      exact w_iret rfl rfl ⟨_, rfl, H⟩
  · show wm iv L h0 (d + 2) 72 5 [lr 307, li a1, li a2] [vi 0] s (qi F)
    replace H := H.2 h
    refine w_if_eq rfl (fun _ => ?_) (fun h => absurd h (by decide))
    refine w_iconst (n := (-1)) rfl rfl ?_
    refine w_goto rfl ?_
    exact w_iret rfl rfl ⟨_, rfl, H⟩

/-- HoleDeskModel.born(III)I -/
theorem B74 {iv : List (Int × Int)} {L : Nat} {h0 : MH} {d : Nat} {s : SM} {a1 : Int} {a2 : Int} {a3 : Int} {F : Int → SM → Prop} (H : (-2147483648 ≤ (s.1 8) + 1 ∧ (s.1 8) + 1 ≤ 2147483647) ∧ cm iv L h0 d 75 [vr 307, vi (s.1 8), vi a1, vi a2, vi a3] (us s 8 ((s.1 8) + 1)) (qv fun s2 => F (s.1 8) s2)) : cm iv L h0 (d + 1) 74 [vr 307, vi a1, vi a2, vi a3] s (qi F) := by
  show wm iv L h0 (d + 1) 74 0 [lr 307, li a1, li a2, li a3] [] s (qi F)
  refine w_aload_n rfl rfl ?_
  refine m_get rfl rfl ?_
  refine w_istore rfl rfl ?_
  refine w_aload_n rfl rfl ?_
  refine w_dup rfl rfl ?_
  refine m_get rfl rfl ?_
  refine w_iconst (n := 1) rfl rfl ?_
  obtain ⟨g1, H⟩ := H
  refine w_iadd rfl g1 ?_
  refine m_put rfl rfl rfl ?_
  refine w_aload_n rfl rfl ?_
  refine w_iload rfl rfl ?_
  refine w_iload_n rfl rfl ?_
  refine w_iload_n rfl rfl ?_
  refine w_iload_n rfl rfl ?_
  refine m_call (as := [vi (s.1 8), vi a1, vi a2, vi a3]) (r := []) rfl rfl rfl rfl rfl rfl (wc_mono H (Nat.le_refl _) ?_)
  rintro _ s2 ⟨rfl, H⟩
  show wm iv L h0 (d + 1) 74 25 [lr 307, li a1, li a2, li a3, li (s.1 8)] [] s2 (qi F)
  refine w_iload rfl rfl ?_
  exact w_iret rfl rfl ⟨_, rfl, H⟩

/-- HoleDeskModel.set(IIII)V -/
theorem B75 {iv : List (Int × Int)} {L : Nat} {h0 : MH} {d : Nat} {s : SM} {a1 : Int} {a2 : Int} {a3 : Int} {a4 : Int} {F : SM → Prop} (H : (0 ≤ a1 ∧ a1 < 3004) ∧ ((a2 = 1 → ((a2 = 8 → F (ua (ua (ua s 9 a1 a2) 10 a1 a3) 11 a1 a4)) ∧ (a2 ≠ 8 → ((a2 ≠ 15 → F (ua (ua (ua s 9 a1 a2) 10 a1 a3) 11 a1 (-9))) ∧ (a2 = 15 → F (ua (ua (ua s 9 a1 a2) 10 a1 a3) 11 a1 a4)))))) ∧ (a2 ≠ 1 → ((a2 = 2 → ((a2 = 8 → F (ua (ua (ua s 9 a1 a2) 10 a1 a3) 11 a1 a4)) ∧ (a2 ≠ 8 → ((a2 ≠ 15 → F (ua (ua (ua s 9 a1 a2) 10 a1 a3) 11 a1 (-9))) ∧ (a2 = 15 → F (ua (ua (ua s 9 a1 a2) 10 a1 a3) 11 a1 a4)))))) ∧ (a2 ≠ 2 → ((a2 = 3 → ((a2 = 8 → F (ua (ua (ua s 9 a1 a2) 10 a1 a3) 11 a1 a4)) ∧ (a2 ≠ 8 → ((a2 ≠ 15 → F (ua (ua (ua s 9 a1 a2) 10 a1 a3) 11 a1 (-9))) ∧ (a2 = 15 → F (ua (ua (ua s 9 a1 a2) 10 a1 a3) 11 a1 a4)))))) ∧ (a2 ≠ 3 → ((a2 = 8 → ((a2 = 8 → F (ua (ua (ua s 9 a1 a2) 10 a1 a3) 11 a1 a4)) ∧ (a2 ≠ 8 → ((a2 ≠ 15 → F (ua (ua (ua s 9 a1 a2) 10 a1 a3) 11 a1 (-9))) ∧ (a2 = 15 → F (ua (ua (ua s 9 a1 a2) 10 a1 a3) 11 a1 a4)))))) ∧ (a2 ≠ 8 → ((a2 ≠ 10 → ((a2 = 8 → F (ua (ua (ua s 9 a1 a2) 10 a1 (-9)) 11 a1 a4)) ∧ (a2 ≠ 8 → ((a2 ≠ 15 → F (ua (ua (ua s 9 a1 a2) 10 a1 (-9)) 11 a1 (-9))) ∧ (a2 = 15 → F (ua (ua (ua s 9 a1 a2) 10 a1 (-9)) 11 a1 a4)))))) ∧ (a2 = 10 → ((a2 = 8 → F (ua (ua (ua s 9 a1 a2) 10 a1 a3) 11 a1 a4)) ∧ (a2 ≠ 8 → ((a2 ≠ 15 → F (ua (ua (ua s 9 a1 a2) 10 a1 a3) 11 a1 (-9))) ∧ (a2 = 15 → F (ua (ua (ua s 9 a1 a2) 10 a1 a3) 11 a1 a4)))))))))))))))) : cm iv L h0 d 75 [vr 307, vi a1, vi a2, vi a3, vi a4] s (qv F) := by
  show wm iv L h0 d 75 0 [lr 307, li a1, li a2, li a3, li a4] [] s (qv F)
  refine w_aload_n rfl rfl ?_
  refine m_geta (t := 0) (k := 3004) rfl rfl ?_
  refine w_iload_n rfl rfl ?_
  refine w_iload_n rfl rfl ?_
  obtain ⟨g1, H⟩ := H
  refine m_ast rfl (f := 9) (k := 3004) rfl g1 ?_
  refine w_aload_n rfl rfl ?_
  refine m_geta (t := 0) (k := 3004) rfl rfl ?_
  refine w_iload_n rfl rfl ?_
  refine w_iload_n rfl rfl ?_
  refine w_iconst (n := 1) rfl rfl ?_
  refine w_icmp_eq rfl (fun h => ?_) (fun h => ?_)
  · replace H := H.1 h
    refine w_iload_n rfl rfl ?_
    refine w_goto rfl ?_
    refine m_ast rfl (f := 10) (k := 3004) rfl g1 ?_
    refine w_aload_n rfl rfl ?_
    refine m_geta (t := 0) (k := 3004) rfl rfl ?_
    refine w_iload_n rfl rfl ?_
    refine w_iload_n rfl rfl ?_
    refine w_bipush (n := 8) rfl rfl rfl ?_
    refine w_icmp_eq rfl (fun h => ?_) (fun h => ?_)
    · replace H := H.1 h
      refine w_iload rfl rfl ?_
      refine w_goto rfl ?_
      refine m_ast rfl (f := 11) (k := 3004) rfl g1 ?_
      exact w_ret rfl rfl ⟨rfl, H⟩
    · replace H := H.2 h
      refine w_iload_n rfl rfl ?_
      refine w_bipush (n := 15) rfl rfl rfl ?_
      refine w_icmp_ne rfl (fun h => ?_) (fun h => ?_)
      · replace H := H.1 h
        refine w_bipush (n := (-9)) rfl rfl rfl ?_
        refine m_ast rfl (f := 11) (k := 3004) rfl g1 ?_
        exact w_ret rfl rfl ⟨rfl, H⟩
      · replace H := H.2 h
        refine w_iload rfl rfl ?_
        refine w_goto rfl ?_
        refine m_ast rfl (f := 11) (k := 3004) rfl g1 ?_
        exact w_ret rfl rfl ⟨rfl, H⟩
  · replace H := H.2 h
    refine w_iload_n rfl rfl ?_
    refine w_iconst (n := 2) rfl rfl ?_
    refine w_icmp_eq rfl (fun h => ?_) (fun h => ?_)
    · replace H := H.1 h
      refine w_iload_n rfl rfl ?_
      refine w_goto rfl ?_
      refine m_ast rfl (f := 10) (k := 3004) rfl g1 ?_
      refine w_aload_n rfl rfl ?_
      refine m_geta (t := 0) (k := 3004) rfl rfl ?_
      refine w_iload_n rfl rfl ?_
      refine w_iload_n rfl rfl ?_
      refine w_bipush (n := 8) rfl rfl rfl ?_
      refine w_icmp_eq rfl (fun h => ?_) (fun h => ?_)
      · replace H := H.1 h
        refine w_iload rfl rfl ?_
        refine w_goto rfl ?_
        refine m_ast rfl (f := 11) (k := 3004) rfl g1 ?_
        exact w_ret rfl rfl ⟨rfl, H⟩
      · replace H := H.2 h
        refine w_iload_n rfl rfl ?_
        refine w_bipush (n := 15) rfl rfl rfl ?_
        refine w_icmp_ne rfl (fun h => ?_) (fun h => ?_)
        · replace H := H.1 h
          refine w_bipush (n := (-9)) rfl rfl rfl ?_
          refine m_ast rfl (f := 11) (k := 3004) rfl g1 ?_
          exact w_ret rfl rfl ⟨rfl, H⟩
        · replace H := H.2 h
          refine w_iload rfl rfl ?_
          refine w_goto rfl ?_
          refine m_ast rfl (f := 11) (k := 3004) rfl g1 ?_
          exact w_ret rfl rfl ⟨rfl, H⟩
    · replace H := H.2 h
      refine w_iload_n rfl rfl ?_
      refine w_iconst (n := 3) rfl rfl ?_
      refine w_icmp_eq rfl (fun h => ?_) (fun h => ?_)
      · replace H := H.1 h
        refine w_iload_n rfl rfl ?_
        refine w_goto rfl ?_
        refine m_ast rfl (f := 10) (k := 3004) rfl g1 ?_
        refine w_aload_n rfl rfl ?_
        refine m_geta (t := 0) (k := 3004) rfl rfl ?_
        refine w_iload_n rfl rfl ?_
        refine w_iload_n rfl rfl ?_
        refine w_bipush (n := 8) rfl rfl rfl ?_
        refine w_icmp_eq rfl (fun h => ?_) (fun h => ?_)
        · replace H := H.1 h
          refine w_iload rfl rfl ?_
          refine w_goto rfl ?_
          refine m_ast rfl (f := 11) (k := 3004) rfl g1 ?_
          exact w_ret rfl rfl ⟨rfl, H⟩
        · replace H := H.2 h
          refine w_iload_n rfl rfl ?_
          refine w_bipush (n := 15) rfl rfl rfl ?_
          refine w_icmp_ne rfl (fun h => ?_) (fun h => ?_)
          · replace H := H.1 h
            refine w_bipush (n := (-9)) rfl rfl rfl ?_
            refine m_ast rfl (f := 11) (k := 3004) rfl g1 ?_
            exact w_ret rfl rfl ⟨rfl, H⟩
          · replace H := H.2 h
            refine w_iload rfl rfl ?_
            refine w_goto rfl ?_
            refine m_ast rfl (f := 11) (k := 3004) rfl g1 ?_
            exact w_ret rfl rfl ⟨rfl, H⟩
      · replace H := H.2 h
        refine w_iload_n rfl rfl ?_
        refine w_bipush (n := 8) rfl rfl rfl ?_
        refine w_icmp_eq rfl (fun h => ?_) (fun h => ?_)
        · replace H := H.1 h
          refine w_iload_n rfl rfl ?_
          refine w_goto rfl ?_
          refine m_ast rfl (f := 10) (k := 3004) rfl g1 ?_
          refine w_aload_n rfl rfl ?_
          refine m_geta (t := 0) (k := 3004) rfl rfl ?_
          refine w_iload_n rfl rfl ?_
          refine w_iload_n rfl rfl ?_
          refine w_bipush (n := 8) rfl rfl rfl ?_
          refine w_icmp_eq rfl (fun h => ?_) (fun h => ?_)
          · replace H := H.1 h
            refine w_iload rfl rfl ?_
            refine w_goto rfl ?_
            refine m_ast rfl (f := 11) (k := 3004) rfl g1 ?_
            exact w_ret rfl rfl ⟨rfl, H⟩
          · replace H := H.2 h
            refine w_iload_n rfl rfl ?_
            refine w_bipush (n := 15) rfl rfl rfl ?_
            refine w_icmp_ne rfl (fun h => ?_) (fun h => ?_)
            · replace H := H.1 h
              refine w_bipush (n := (-9)) rfl rfl rfl ?_
              refine m_ast rfl (f := 11) (k := 3004) rfl g1 ?_
              exact w_ret rfl rfl ⟨rfl, H⟩
            · replace H := H.2 h
              refine w_iload rfl rfl ?_
              refine w_goto rfl ?_
              refine m_ast rfl (f := 11) (k := 3004) rfl g1 ?_
              exact w_ret rfl rfl ⟨rfl, H⟩
        · replace H := H.2 h
          refine w_iload_n rfl rfl ?_
          refine w_bipush (n := 10) rfl rfl rfl ?_
          refine w_icmp_ne rfl (fun h => ?_) (fun h => ?_)
          · replace H := H.1 h
            refine w_bipush (n := (-9)) rfl rfl rfl ?_
            refine m_ast rfl (f := 10) (k := 3004) rfl g1 ?_
            refine w_aload_n rfl rfl ?_
            refine m_geta (t := 0) (k := 3004) rfl rfl ?_
            refine w_iload_n rfl rfl ?_
            refine w_iload_n rfl rfl ?_
            refine w_bipush (n := 8) rfl rfl rfl ?_
            refine w_icmp_eq rfl (fun h => ?_) (fun h => ?_)
            · replace H := H.1 h
              refine w_iload rfl rfl ?_
              refine w_goto rfl ?_
              refine m_ast rfl (f := 11) (k := 3004) rfl g1 ?_
              exact w_ret rfl rfl ⟨rfl, H⟩
            · replace H := H.2 h
              refine w_iload_n rfl rfl ?_
              refine w_bipush (n := 15) rfl rfl rfl ?_
              refine w_icmp_ne rfl (fun h => ?_) (fun h => ?_)
              · replace H := H.1 h
                refine w_bipush (n := (-9)) rfl rfl rfl ?_
                refine m_ast rfl (f := 11) (k := 3004) rfl g1 ?_
                exact w_ret rfl rfl ⟨rfl, H⟩
              · replace H := H.2 h
                refine w_iload rfl rfl ?_
                refine w_goto rfl ?_
                refine m_ast rfl (f := 11) (k := 3004) rfl g1 ?_
                exact w_ret rfl rfl ⟨rfl, H⟩
          · replace H := H.2 h
            refine w_iload_n rfl rfl ?_
            refine w_goto rfl ?_
            refine m_ast rfl (f := 10) (k := 3004) rfl g1 ?_
            refine w_aload_n rfl rfl ?_
            refine m_geta (t := 0) (k := 3004) rfl rfl ?_
            refine w_iload_n rfl rfl ?_
            refine w_iload_n rfl rfl ?_
            refine w_bipush (n := 8) rfl rfl rfl ?_
            refine w_icmp_eq rfl (fun h => ?_) (fun h => ?_)
            · replace H := H.1 h
              refine w_iload rfl rfl ?_
              refine w_goto rfl ?_
              refine m_ast rfl (f := 11) (k := 3004) rfl g1 ?_
              exact w_ret rfl rfl ⟨rfl, H⟩
            · replace H := H.2 h
              refine w_iload_n rfl rfl ?_
              refine w_bipush (n := 15) rfl rfl rfl ?_
              refine w_icmp_ne rfl (fun h => ?_) (fun h => ?_)
              · replace H := H.1 h
                refine w_bipush (n := (-9)) rfl rfl rfl ?_
                refine m_ast rfl (f := 11) (k := 3004) rfl g1 ?_
                exact w_ret rfl rfl ⟨rfl, H⟩
              · replace H := H.2 h
                refine w_iload rfl rfl ?_
                refine w_goto rfl ?_
                refine m_ast rfl (f := 11) (k := 3004) rfl g1 ?_
                exact w_ret rfl rfl ⟨rfl, H⟩

/-- HoleDeskModel.setPart(III)V -/
theorem B76 {iv : List (Int × Int)} {L : Nat} {h0 : MH} {d : Nat} {s : SM} {a1 : Int} {a2 : Int} {a3 : Int} {F : SM → Prop} (H : (-2147483648 ≤ 3 * a1 ∧ 3 * a1 ≤ 2147483647) ∧ (-2147483648 ≤ (3 * a1) + a2 ∧ (3 * a1) + a2 ≤ 2147483647) ∧ (0 ≤ (3 * a1) + a2 ∧ (3 * a1) + a2 < 9012) ∧ (0 ≤ a3 ∧ a3 < 3004) ∧ F (ua (ua (ua s 14 ((3 * a1) + a2) a3) 12 a3 a1) 13 a3 a2)) : cm iv L h0 d 76 [vr 307, vi a1, vi a2, vi a3] s (qv F) := by
  show wm iv L h0 d 76 0 [lr 307, li a1, li a2, li a3] [] s (qv F)
  refine w_aload_n rfl rfl ?_
  refine m_geta (t := 0) (k := 9012) rfl rfl ?_
  refine w_iconst (n := 3) rfl rfl ?_
  refine w_iload_n rfl rfl ?_
  obtain ⟨g1, H⟩ := H
  refine w_imul rfl g1 ?_
  refine w_iload_n rfl rfl ?_
  obtain ⟨g2, H⟩ := H
  refine w_iadd rfl g2 ?_
  refine w_iload_n rfl rfl ?_
  obtain ⟨g3, H⟩ := H
  refine m_ast rfl (f := 14) (k := 9012) rfl g3 ?_
  refine w_aload_n rfl rfl ?_
  refine m_geta (t := 0) (k := 3004) rfl rfl ?_
  refine w_iload_n rfl rfl ?_
  refine w_iload_n rfl rfl ?_
  obtain ⟨g4, H⟩ := H
  refine m_ast rfl (f := 12) (k := 3004) rfl g4 ?_
  refine w_aload_n rfl rfl ?_
  refine m_geta (t := 0) (k := 3004) rfl rfl ?_
  refine w_iload_n rfl rfl ?_
  refine w_iload_n rfl rfl ?_
  refine m_ast rfl (f := 13) (k := 3004) rfl g4 ?_
  exact w_ret rfl rfl ⟨rfl, H⟩

/-- HoleDeskModel.replace(II)V -/
theorem B77 {iv : List (Int × Int)} {L : Nat} {h0 : MH} {d : Nat} {s : SM} {a1 : Int} {a2 : Int} {F : SM → Prop} (H : (0 ≤ a1 ∧ a1 < 3004) ∧ ((s.2 12 a1 ≠ (-9) → cm iv L h0 d 76 [vr 307, vi (s.2 12 a1), vi (s.2 13 a1), vi a2] s (qv fun s2 => F s2)) ∧ (s.2 12 a1 = (-9) → (0 ≤ a2 ∧ a2 < 3004) ∧ F (ua (ua (us s 15 a2) 12 a2 (-9)) 13 a2 (-9))))) : cm iv L h0 (d + 1) 77 [vr 307, vi a1, vi a2] s (qv F) := by
  show wm iv L h0 (d + 1) 77 0 [lr 307, li a1, li a2] [] s (qv F)
  refine w_aload_n rfl rfl ?_
  refine m_geta (t := 0) (k := 3004) rfl rfl ?_
  refine w_iload_n rfl rfl ?_
  obtain ⟨g1, H⟩ := H
  refine m_ald rfl (f := 12) (k := 3004) rfl g1 ?_
  refine w_istore_n rfl rfl ?_
  refine w_aload_n rfl rfl ?_
  refine m_geta (t := 0) (k := 3004) rfl rfl ?_
  refine w_iload_n rfl rfl ?_
  refine m_ald rfl (f := 13) (k := 3004) rfl g1 ?_
  refine w_istore rfl rfl ?_
  refine w_iload_n rfl rfl ?_
  refine w_bipush (n := (-9)) rfl rfl rfl ?_
  refine w_icmp_ne rfl (fun h => ?_) (fun h => ?_)
  · replace H := H.1 h
    refine w_aload_n rfl rfl ?_
    refine w_iload_n rfl rfl ?_
    refine w_iload rfl rfl ?_
    refine w_iload_n rfl rfl ?_
    refine m_call (as := [vi (s.2 12 a1), vi (s.2 13 a1), vi a2]) (r := []) rfl rfl rfl rfl rfl rfl (wc_mono H (Nat.le_refl _) ?_)
    rintro _ s2 ⟨rfl, H⟩
    show wm iv L h0 (d + 1) 77 53 [lr 307, li a1, li a2, li (s.2 12 a1), li (s.2 13 a1)] [] s2 (qv F)
    exact w_ret rfl rfl ⟨rfl, H⟩
  · replace H := H.2 h
    refine w_aload_n rfl rfl ?_
    refine w_iload_n rfl rfl ?_
    refine m_put rfl rfl rfl ?_
    refine w_aload_n rfl rfl ?_
    refine m_geta (t := 0) (k := 3004) rfl rfl ?_
    refine w_iload_n rfl rfl ?_
    refine w_bipush (n := (-9)) rfl rfl rfl ?_
    obtain ⟨g3, H⟩ := H
    refine m_ast rfl (f := 12) (k := 3004) rfl g3 ?_
    refine w_aload_n rfl rfl ?_
    refine m_geta (t := 0) (k := 3004) rfl rfl ?_
    refine w_iload_n rfl rfl ?_
    refine w_bipush (n := (-9)) rfl rfl rfl ?_
    refine m_ast rfl (f := 13) (k := 3004) rfl g3 ?_
    refine w_goto rfl ?_
    exact w_ret rfl rfl ⟨rfl, H⟩

/-- HoleDeskModel.lay(I)V -/
theorem B78 {iv : List (Int × Int)} {L : Nat} {h0 : MH} {d : Nat} {s : SM} {a1 : Int} {F : SM → Prop} (H : (0 ≤ s.1 18 ∧ s.1 18 < 80) ∧ (-2147483648 ≤ (s.1 18) + 1 ∧ (s.1 18) + 1 ≤ 2147483647) ∧ wm iv L h0 (d + 1) 78 22 [lr 307, li a1, li 0] [] (us (ua s 17 (s.1 18) a1) 18 ((s.1 18) + 1)) (qv F)) : cm iv L h0 (d + 1) 78 [vr 307, vi a1] s (qv F) := by
  show wm iv L h0 (d + 1) 78 0 [lr 307, li a1] [] s (qv F)
  refine w_aload_n rfl rfl ?_
  refine m_geta (t := 0) (k := 80) rfl rfl ?_
  refine w_aload_n rfl rfl ?_
  refine m_get rfl rfl ?_
  refine w_iload_n rfl rfl ?_
  obtain ⟨g1, H⟩ := H
  refine m_ast rfl (f := 17) (k := 80) rfl g1 ?_
  refine w_aload_n rfl rfl ?_
  refine w_dup rfl rfl ?_
  refine m_get rfl rfl ?_
  show wm iv L h0 (d + 1) 78 15 [lr 307, li a1] [vi (s.1 18), vr 307] (ua s 17 (s.1 18) a1) (qv F)
  refine w_iconst (n := 1) rfl rfl ?_
  obtain ⟨g2, H⟩ := H
  refine w_iadd rfl g2 ?_
  refine m_put rfl rfl rfl ?_
  refine w_iconst (n := 0) rfl rfl ?_
  refine w_istore_n rfl rfl ?_
  exact wp_ls (sl_s (sl_s (sl_s (sl_0)))) H

/-- HoleDeskModel.lay(I)V at 22 -/
theorem B78_22 {iv : List (Int × Int)} {L : Nat} {h0 : MH} {d : Nat} {s : SM} {l1 : Int} {l2 : Int} {F : SM → Prop} (H : (0 ≤ l1 ∧ l1 < 3004) ∧ (0 ≤ s.2 9 l1 ∧ s.2 9 l1 < 16) ∧ ((pO (s.2 9 l1) ≤ l2 → F s) ∧ (l2 < pO (s.2 9 l1) → (-2147483648 ≤ 3 * l1 ∧ 3 * l1 ≤ 2147483647) ∧ (-2147483648 ≤ (3 * l1) + l2 ∧ (3 * l1) + l2 ≤ 2147483647) ∧ (0 ≤ (3 * l1) + l2 ∧ (3 * l1) + l2 < 9012) ∧ cm iv L h0 d 78 [vr 307, vi (s.2 14 ((3 * l1) + l2))] s (qv fun s6 => (-2147483648 ≤ l2 + 1 ∧ l2 + 1 ≤ 2147483647) ∧ wm iv L h0 (d + 1) 78 22 [lr 307, li l1, li (l2 + 1)] [] s6 (qv F))))) : wm iv L h0 (d + 1) 78 22 [lr 307, li l1, li l2] [] s (qv F) := by
  refine w_iload_n rfl rfl ?_
  refine w_aload_n rfl rfl ?_
  refine m_geta (t := 0) (k := 3004) rfl rfl ?_
  refine w_iload_n rfl rfl ?_
  obtain ⟨g1, H⟩ := H
  refine m_ald rfl (f := 9) (k := 3004) rfl g1 ?_
  obtain ⟨g2, H⟩ := H
  refine w_static (as := [vi (s.2 9 l1)]) (r := [vi l2]) rfl rfl rfl rfl rfl (m_parts g2 ?_)
  show wm iv L h0 (d + 1) 78 32 [lr 307, li l1, li l2] [vi (pO (s.2 9 l1)), vi l2] s (qv F)
  refine w_icmp_ge rfl (fun h => ?_) (fun h => ?_)
  · replace H := H.1 h
    exact w_ret rfl rfl ⟨rfl, H⟩
  · replace H := H.2 h
    refine w_aload_n rfl rfl ?_
    refine w_aload_n rfl rfl ?_
    refine m_geta (t := 0) (k := 9012) rfl rfl ?_
    refine w_iconst (n := 3) rfl rfl ?_
    refine w_iload_n rfl rfl ?_
    obtain ⟨g3, H⟩ := H
    refine w_imul rfl g3 ?_
    refine w_iload_n rfl rfl ?_
    obtain ⟨g4, H⟩ := H
    refine w_iadd rfl g4 ?_
    obtain ⟨g5, H⟩ := H
    refine m_ald rfl (f := 14) (k := 9012) rfl g5 ?_
    refine m_call (as := [vi (s.2 14 ((3 * l1) + l2))]) (r := []) rfl rfl rfl rfl rfl rfl (wc_mono H (Nat.le_refl _) ?_)
    rintro _ s6 ⟨rfl, H⟩
    show wm iv L h0 (d + 1) 78 49 [lr 307, li l1, li l2] [] s6 (qv F)
    obtain ⟨g7, H⟩ := H
    refine w_iinc rfl rfl rfl g7 ?_
    refine w_goto rfl ?_
    exact wp_ls (sl_s (sl_s (sl_s (sl_0)))) H

/-- HoleDeskModel.layAll()V -/
theorem B79 {iv : List (Int × Int)} {L : Nat} {h0 : MH} {d : Nat} {s : SM} {F : SM → Prop} (H : cm iv L h0 d 78 [vr 307, vi (s.1 15)] (us s 18 0) (qv fun s1 => F s1)) : cm iv L h0 (d + 1) 79 [vr 307] s (qv F) := by
  show wm iv L h0 (d + 1) 79 0 [lr 307] [] s (qv F)
  refine w_aload_n rfl rfl ?_
  refine w_iconst (n := 0) rfl rfl ?_
  refine m_put rfl rfl rfl ?_
  refine w_aload_n rfl rfl ?_
  refine w_aload_n rfl rfl ?_
  refine m_get rfl rfl ?_
  show wm iv L h0 (d + 1) 79 10 [lr 307] [vi (s.1 15), vr 307] (us s 18 0) (qv F)
  refine m_call (as := [vi (s.1 15)]) (r := []) rfl rfl rfl rfl rfl rfl (wc_mono H (Nat.le_refl _) ?_)
  rintro _ s1 ⟨rfl, H⟩
  show wm iv L h0 (d + 1) 79 13 [lr 307] [] s1 (qv F)
  exact w_ret rfl rfl ⟨rfl, H⟩

/-- HoleDeskModel.isThere(I)Z -/
theorem B80 {iv : List (Int × Int)} {L : Nat} {h0 : MH} {d : Nat} {s : SM} {a1 : Int} {F : Int → SM → Prop} (H : cm iv L h0 d 79 [vr 307] s (qv fun s1 => wm iv L h0 (d + 1) 80 6 [lr 307, li a1, li 0] [] s1 (qi F))) : cm iv L h0 (d + 1) 80 [vr 307, vi a1] s (qi F) := by
  show wm iv L h0 (d + 1) 80 0 [lr 307, li a1] [] s (qi F)
  refine w_aload_n rfl rfl ?_
  refine m_call (as := []) (r := []) rfl rfl rfl rfl rfl rfl (wc_mono H (Nat.le_refl _) ?_)
  rintro _ s1 ⟨rfl, H⟩
  show wm iv L h0 (d + 1) 80 4 [lr 307, li a1] [] s1 (qi F)
  refine w_iconst (n := 0) rfl rfl ?_
  refine w_istore_n rfl rfl ?_
  exact wp_ls (sl_s (sl_s (sl_s (sl_0)))) H

/-- HoleDeskModel.isThere(I)Z at 6 -/
theorem B80_6 {iv : List (Int × Int)} {L : Nat} {h0 : MH} {d : Nat} {s : SM} {l1 : Int} {l2 : Int} {F : Int → SM → Prop} (H : ((s.1 18 ≤ l2 → F 0 s) ∧ (l2 < s.1 18 → (0 ≤ l2 ∧ l2 < 80) ∧ ((s.2 17 l2 ≠ l1 → (-2147483648 ≤ l2 + 1 ∧ l2 + 1 ≤ 2147483647) ∧ wm iv L h0 (d + 1) 80 6 [lr 307, li l1, li (l2 + 1)] [] s (qi F)) ∧ (s.2 17 l2 = l1 → F 1 s))))) : wm iv L h0 (d + 1) 80 6 [lr 307, li l1, li l2] [] s (qi F) := by
  refine w_iload_n rfl rfl ?_
  refine w_aload_n rfl rfl ?_
  refine m_get rfl rfl ?_
  refine w_icmp_ge rfl (fun h => ?_) (fun h => ?_)
  · replace H := H.1 h
    refine w_iconst (n := 0) rfl rfl ?_
    exact w_iretz rfl rfl (by decide) ⟨_, rfl, H⟩
  · replace H := H.2 h
    refine w_aload_n rfl rfl ?_
    refine m_geta (t := 0) (k := 80) rfl rfl ?_
    refine w_iload_n rfl rfl ?_
    obtain ⟨g1, H⟩ := H
    refine m_ald rfl (f := 17) (k := 80) rfl g1 ?_
    refine w_iload_n rfl rfl ?_
    refine w_icmp_ne rfl (fun h => ?_) (fun h => ?_)
    · replace H := H.1 h
      obtain ⟨g2, H⟩ := H
      refine w_iinc rfl rfl rfl g2 ?_
      refine w_goto rfl ?_
      exact wp_ls (sl_s (sl_s (sl_s (sl_0)))) H
    · replace H := H.2 h
      refine w_iconst (n := 1) rfl rfl ?_
      exact w_iretz rfl rfl (by decide) ⟨_, rfl, H⟩

/-- HoleDeskModel.sizeOf(I)I -/
theorem B81 {iv : List (Int × Int)} {L : Nat} {h0 : MH} {d : Nat} {s : SM} {a1 : Int} {F : Int → SM → Prop} (H : cm iv L h0 d 78 [vr 307, vi a1] (us s 18 0) (qv fun s1 => F (s1.1 18) s1)) : cm iv L h0 (d + 1) 81 [vr 307, vi a1] s (qi F) := by
  show wm iv L h0 (d + 1) 81 0 [lr 307, li a1] [] s (qi F)
  refine w_aload_n rfl rfl ?_
  refine w_iconst (n := 0) rfl rfl ?_
  refine m_put rfl rfl rfl ?_
  refine w_aload_n rfl rfl ?_
  refine w_iload_n rfl rfl ?_
  refine m_call (as := [vi a1]) (r := []) rfl rfl rfl rfl rfl rfl (wc_mono H (Nat.le_refl _) ?_)
  rintro _ s1 ⟨rfl, H⟩
  show wm iv L h0 (d + 1) 81 10 [lr 307, li a1] [] s1 (qi F)
  refine w_aload_n rfl rfl ?_
  refine m_get rfl rfl ?_
  exact w_iret rfl rfl ⟨_, rfl, H⟩

/-- HoleDeskModel.nodes()I -/
theorem B82 {iv : List (Int × Int)} {L : Nat} {h0 : MH} {d : Nat} {s : SM} {F : Int → SM → Prop} (H : cm iv L h0 d 81 [vr 307, vi (s.1 15)] s (qi fun r2 s1 => F r2 s1)) : cm iv L h0 (d + 1) 82 [vr 307] s (qi F) := by
  show wm iv L h0 (d + 1) 82 0 [lr 307] [] s (qi F)
  refine w_aload_n rfl rfl ?_
  refine w_aload_n rfl rfl ?_
  refine m_get rfl rfl ?_
  refine m_call (as := [vi (s.1 15)]) (r := []) rfl rfl rfl rfl rfl rfl (wc_mono H (Nat.le_refl _) ?_)
  rintro _ s1 ⟨r2, rfl, H⟩
  show wm iv L h0 (d + 1) 82 8 [lr 307] [vi r2] s1 (qi F)
  exact w_iret rfl rfl ⟨_, rfl, H⟩

/-- HoleDeskModel.cursor()I -/
theorem B83 {iv : List (Int × Int)} {L : Nat} {h0 : MH} {d : Nat} {s : SM} {F : Int → SM → Prop} (H : F (s.1 16) s) : cm iv L h0 d 83 [vr 307] s (qi F) := by
  show wm iv L h0 d 83 0 [lr 307] [] s (qi F)
  refine w_aload_n rfl rfl ?_
  refine m_get rfl rfl ?_
  exact w_iret rfl rfl ⟨_, rfl, H⟩

/-- HoleDeskModel.isWithin(II)Z -/
theorem B84 {iv : List (Int × Int)} {L : Nat} {h0 : MH} {d : Nat} {s : SM} {a1 : Int} {a2 : Int} {F : Int → SM → Prop} (H : wm iv L h0 d 84 2 [lr 307, ln, li a2, li a1] [] s (qi F)) : cm iv L h0 d 84 [vr 307, vi a1, vi a2] s (qi F) := by
  show wm iv L h0 d 84 0 [lr 307, li a1, li a2] [] s (qi F)
  refine w_iload_n rfl rfl ?_
  refine w_istore_n rfl rfl ?_
  exact wp_ls (sl_s (sl_n (sl_s (sl_s (sl_0))))) H

/-- HoleDeskModel.isWithin(II)Z at 2 -/
theorem B84_2 {iv : List (Int × Int)} {L : Nat} {h0 : MH} {d : Nat} {s : SM} {l2 : Int} {l3 : Int} {F : Int → SM → Prop} (H : ((l3 = (-9) → ((l3 ≠ l2 → F 0 s) ∧ (l3 = l2 → F 1 s))) ∧ (l3 ≠ (-9) → ((l3 = l2 → ((l3 ≠ l2 → F 0 s) ∧ (l3 = l2 → F 1 s))) ∧ (l3 ≠ l2 → (0 ≤ l3 ∧ l3 < 3004) ∧ wm iv L h0 d 84 2 [lr 307, ln, li l2, li (s.2 12 l3)] [] s (qi F)))))) : wm iv L h0 d 84 2 [lr 307, ln, li l2, li l3] [] s (qi F) := by
  refine w_iload_n rfl rfl ?_
  refine w_bipush (n := (-9)) rfl rfl rfl ?_
  refine w_icmp_eq rfl (fun h => ?_) (fun h => ?_)
  · replace H := H.1 h
    refine w_iload_n rfl rfl ?_
    refine w_iload_n rfl rfl ?_
    refine w_icmp_ne rfl (fun h => ?_) (fun h => ?_)
    · replace H := H.1 h
      refine w_iconst (n := 0) rfl rfl ?_
      exact w_iretz rfl rfl (by decide) ⟨_, rfl, H⟩
    · replace H := H.2 h
      refine w_iconst (n := 1) rfl rfl ?_
      refine w_goto rfl ?_
      exact w_iretz rfl rfl (by decide) ⟨_, rfl, H⟩
  · replace H := H.2 h
    refine w_iload_n rfl rfl ?_
    refine w_iload_n rfl rfl ?_
    refine w_icmp_eq rfl (fun h => ?_) (fun h => ?_)
    · replace H := H.1 h
      refine w_iload_n rfl rfl ?_
      refine w_iload_n rfl rfl ?_
      refine w_icmp_ne rfl (fun h => ?_) (fun h => ?_)
      · replace H := H.1 h
        refine w_iconst (n := 0) rfl rfl ?_
        exact w_iretz rfl rfl (by decide) ⟨_, rfl, H⟩
      · replace H := H.2 h
        refine w_iconst (n := 1) rfl rfl ?_
        refine w_goto rfl ?_
        exact w_iretz rfl rfl (by decide) ⟨_, rfl, H⟩
    · replace H := H.2 h
      refine w_aload_n rfl rfl ?_
      refine m_geta (t := 0) (k := 3004) rfl rfl ?_
      refine w_iload_n rfl rfl ?_
      obtain ⟨g1, H⟩ := H
      refine m_ald rfl (f := 12) (k := 3004) rfl g1 ?_
      refine w_istore_n rfl rfl ?_
      refine w_goto rfl ?_
      exact wp_ls (sl_s (sl_n (sl_s (sl_s (sl_0))))) H

/-- HoleDeskModel.binderOf(II)I -/
theorem B85 {iv : List (Int × Int)} {L : Nat} {h0 : MH} {d : Nat} {s : SM} {a1 : Int} {a2 : Int} {F : Int → SM → Prop} (H : (0 ≤ a1 ∧ a1 < 3004) ∧ wm iv L h0 d 85 10 [lr 307, ln, li a2, li a1, li (s.2 12 a1)] [] s (qi F)) : cm iv L h0 d 85 [vr 307, vi a1, vi a2] s (qi F) := by
  show wm iv L h0 d 85 0 [lr 307, li a1, li a2] [] s (qi F)
  refine w_iload_n rfl rfl ?_
  refine w_istore_n rfl rfl ?_
  refine w_aload_n rfl rfl ?_
  refine m_geta (t := 0) (k := 3004) rfl rfl ?_
  refine w_iload_n rfl rfl ?_
  obtain ⟨g1, H⟩ := H
  refine m_ald rfl (f := 12) (k := 3004) rfl g1 ?_
  refine w_istore rfl rfl ?_
  exact wp_ls (sl_s (sl_n (sl_s (sl_s (sl_s (sl_0)))))) H

/-- HoleDeskModel.binderOf(II)I at 10 -/
theorem B85_10 {iv : List (Int × Int)} {L : Nat} {h0 : MH} {d : Nat} {s : SM} {l2 : Int} {l3 : Int} {l4 : Int} {F : Int → SM → Prop} (H : ((l4 = (-9) → F (-9) s) ∧ (l4 ≠ (-9) → (0 ≤ l4 ∧ l4 < 3004) ∧ ((s.2 9 l4 = 8 → ((s.2 10 l4 ≠ l2 → wm iv L h0 d 85 10 [lr 307, ln, li l2, li l4, li (s.2 12 l4)] [] s (qi F)) ∧ (s.2 10 l4 = l2 → F l4 s))) ∧ (s.2 9 l4 ≠ 8 → ((s.2 9 l4 ≠ 10 → wm iv L h0 d 85 10 [lr 307, ln, li l2, li l4, li (s.2 12 l4)] [] s (qi F)) ∧ (s.2 9 l4 = 10 → (0 ≤ l3 ∧ l3 < 3004) ∧ ((s.2 13 l3 ≠ 1 → wm iv L h0 d 85 10 [lr 307, ln, li l2, li l4, li (s.2 12 l4)] [] s (qi F)) ∧ (s.2 13 l3 = 1 → ((s.2 10 l4 ≠ l2 → wm iv L h0 d 85 10 [lr 307, ln, li l2, li l4, li (s.2 12 l4)] [] s (qi F)) ∧ (s.2 10 l4 = l2 → F l4 s))))))))))) : wm iv L h0 d 85 10 [lr 307, ln, li l2, li l3, li l4] [] s (qi F) := by
  refine w_iload rfl rfl ?_
  refine w_bipush (n := (-9)) rfl rfl rfl ?_
  refine w_icmp_eq rfl (fun h => ?_) (fun h => ?_)
  · replace H := H.1 h
    refine w_bipush (n := (-9)) rfl rfl rfl ?_
    exact w_iret rfl rfl ⟨_, rfl, H⟩
  · replace H := H.2 h
    refine w_aload_n rfl rfl ?_
    refine m_geta (t := 0) (k := 3004) rfl rfl ?_
    refine w_iload rfl rfl ?_
    obtain ⟨g1, H⟩ := H
    refine m_ald rfl (f := 9) (k := 3004) rfl g1 ?_
    refine w_bipush (n := 8) rfl rfl rfl ?_
    refine w_icmp_eq rfl (fun h => ?_) (fun h => ?_)
    · replace H := H.1 h
      refine w_aload_n rfl rfl ?_
      refine m_geta (t := 0) (k := 3004) rfl rfl ?_
      refine w_iload rfl rfl ?_
      refine m_ald rfl (f := 10) (k := 3004) rfl g1 ?_
      refine w_iload_n rfl rfl ?_
      refine w_icmp_ne rfl (fun h => ?_) (fun h => ?_)
      · replace H := H.1 h
        refine w_iconst (n := 0) rfl rfl ?_
        refine w_istore rfl rfl ?_
        refine w_iload rfl rfl ?_
        refine w_if_eq rfl (fun _ => ?_) (fun h => absurd h (by decide))
        refine w_iload rfl rfl ?_
        refine w_istore_n rfl rfl ?_
        refine w_aload_n rfl rfl ?_
        refine m_geta (t := 0) (k := 3004) rfl rfl ?_
        refine w_iload rfl rfl ?_
        refine m_ald rfl (f := 12) (k := 3004) rfl g1 ?_
        refine w_istore rfl rfl ?_
        refine w_goto rfl ?_
        exact wp_ls (sl_s (sl_n (sl_s (sl_s (sl_s (sl_0)))))) H
      · replace H := H.2 h
        refine w_iconst (n := 1) rfl rfl ?_
        refine w_goto rfl ?_
        refine w_istore rfl rfl ?_
        refine w_iload rfl rfl ?_
        refine w_if_eq rfl (fun h => absurd h (by decide)) (fun _ => ?_)
        refine w_iload rfl rfl ?_
        exact w_iret rfl rfl ⟨_, rfl, H⟩
    · replace H := H.2 h
      refine w_aload_n rfl rfl ?_
      refine m_geta (t := 0) (k := 3004) rfl rfl ?_
      refine w_iload rfl rfl ?_
      refine m_ald rfl (f := 9) (k := 3004) rfl g1 ?_
      refine w_bipush (n := 10) rfl rfl rfl ?_
      refine w_icmp_ne rfl (fun h => ?_) (fun h => ?_)
      · replace H := H.1 h
        refine w_iconst (n := 0) rfl rfl ?_
        refine w_istore rfl rfl ?_
        refine w_iload rfl rfl ?_
        refine w_if_eq rfl (fun _ => ?_) (fun h => absurd h (by decide))
        refine w_iload rfl rfl ?_
        refine w_istore_n rfl rfl ?_
        refine w_aload_n rfl rfl ?_
        refine m_geta (t := 0) (k := 3004) rfl rfl ?_
        refine w_iload rfl rfl ?_
        refine m_ald rfl (f := 12) (k := 3004) rfl g1 ?_
        refine w_istore rfl rfl ?_
        refine w_goto rfl ?_
        exact wp_ls (sl_s (sl_n (sl_s (sl_s (sl_s (sl_0)))))) H
      · replace H := H.2 h
        refine w_aload_n rfl rfl ?_
        refine m_geta (t := 0) (k := 3004) rfl rfl ?_
        refine w_iload_n rfl rfl ?_
        obtain ⟨g2, H⟩ := H
        refine m_ald rfl (f := 13) (k := 3004) rfl g2 ?_
        refine w_iconst (n := 1) rfl rfl ?_
        refine w_icmp_ne rfl (fun h => ?_) (fun h => ?_)
        · replace H := H.1 h
          refine w_iconst (n := 0) rfl rfl ?_
          refine w_istore rfl rfl ?_
          refine w_iload rfl rfl ?_
          refine w_if_eq rfl (fun _ => ?_) (fun h => absurd h (by decide))
          refine w_iload rfl rfl ?_
          refine w_istore_n rfl rfl ?_
          refine w_aload_n rfl rfl ?_
          refine m_geta (t := 0) (k := 3004) rfl rfl ?_
          refine w_iload rfl rfl ?_
          refine m_ald rfl (f := 12) (k := 3004) rfl g1 ?_
          refine w_istore rfl rfl ?_
          refine w_goto rfl ?_
          exact wp_ls (sl_s (sl_n (sl_s (sl_s (sl_s (sl_0)))))) H
        · replace H := H.2 h
          refine w_aload_n rfl rfl ?_
          refine m_geta (t := 0) (k := 3004) rfl rfl ?_
          refine w_iload rfl rfl ?_
          refine m_ald rfl (f := 10) (k := 3004) rfl g1 ?_
          refine w_iload_n rfl rfl ?_
          refine w_icmp_ne rfl (fun h => ?_) (fun h => ?_)
          · replace H := H.1 h
            refine w_iconst (n := 0) rfl rfl ?_
            refine w_istore rfl rfl ?_
            refine w_iload rfl rfl ?_
            refine w_if_eq rfl (fun _ => ?_) (fun h => absurd h (by decide))
            refine w_iload rfl rfl ?_
            refine w_istore_n rfl rfl ?_
            refine w_aload_n rfl rfl ?_
            refine m_geta (t := 0) (k := 3004) rfl rfl ?_
            refine w_iload rfl rfl ?_
            refine m_ald rfl (f := 12) (k := 3004) rfl g1 ?_
            refine w_istore rfl rfl ?_
            refine w_goto rfl ?_
            exact wp_ls (sl_s (sl_n (sl_s (sl_s (sl_s (sl_0)))))) H
          · replace H := H.2 h
            refine w_iconst (n := 1) rfl rfl ?_
            refine w_goto rfl ?_
            refine w_istore rfl rfl ?_
            refine w_iload rfl rfl ?_
            refine w_if_eq rfl (fun h => absurd h (by decide)) (fun _ => ?_)
            refine w_iload rfl rfl ?_
            exact w_iret rfl rfl ⟨_, rfl, H⟩

/-- HoleDeskModel.judge()V -/
theorem B86 {iv : List (Int × Int)} {L : Nat} {h0 : MH} {d : Nat} {s : SM} {F : SM → Prop} (H : cm iv L h0 d 88 [vr 307, vi (s.1 15), vi (-1)] (us s 3 40) (qi fun r2 s1 => F s1)) : cm iv L h0 (d + 1) 86 [vr 307] s (qv F) := by
  show wm iv L h0 (d + 1) 86 0 [lr 307] [] s (qv F)
  refine w_aload_n rfl rfl ?_
  refine w_bipush (n := 40) rfl rfl rfl ?_
  refine m_put rfl rfl rfl ?_
  refine w_aload_n rfl rfl ?_
  refine w_aload_n rfl rfl ?_
  refine m_get rfl rfl ?_
  show wm iv L h0 (d + 1) 86 11 [lr 307] [vi (s.1 15), vr 307] (us s 3 40) (qv F)
  refine w_iconst (n := (-1)) rfl rfl ?_
  refine m_call (as := [vi (s.1 15), vi (-1)]) (r := []) rfl rfl rfl rfl rfl rfl (wc_mono H (Nat.le_refl _) ?_)
  rintro _ s1 ⟨r2, rfl, H⟩
  show wm iv L h0 (d + 1) 86 15 [lr 307] [vi r2] s1 (qv F)
  refine w_pop rfl rfl ?_
  exact w_ret rfl rfl ⟨rfl, H⟩

/-- HoleDeskModel.seenAs(I)I -/
theorem B87 {iv : List (Int × Int)} {L : Nat} {h0 : MH} {d : Nat} {s : SM} {a1 : Int} {F : Int → SM → Prop} (H : (0 ≤ a1 ∧ a1 < 3004) ∧ ((s.2 21 a1 ≤ 0 → F (s.2 19 a1) s) ∧ (0 < s.2 21 a1 → F 0 s))) : cm iv L h0 d 87 [vr 307, vi a1] s (qi F) := by
  show wm iv L h0 d 87 0 [lr 307, li a1] [] s (qi F)
  refine w_aload_n rfl rfl ?_
  refine m_geta (t := 0) (k := 3004) rfl rfl ?_
  refine w_iload_n rfl rfl ?_
  obtain ⟨g1, H⟩ := H
  refine m_ald rfl (f := 21) (k := 3004) rfl g1 ?_
  refine w_if_le rfl (fun h => ?_) (fun h => ?_)
  · replace H := H.1 h
    refine w_aload_n rfl rfl ?_
    refine m_geta (t := 0) (k := 3004) rfl rfl ?_
    refine w_iload_n rfl rfl ?_
    refine m_ald rfl (f := 19) (k := 3004) rfl g1 ?_
    exact w_iret rfl rfl ⟨_, rfl, H⟩
  · replace H := H.2 h
    refine w_iconst (n := 0) rfl rfl ?_
    refine w_goto rfl ?_
    exact w_iret rfl rfl ⟨_, rfl, H⟩

/-- HoleDeskModel.judge(II)I -/
theorem B88 {iv : List (Int × Int)} {L : Nat} {h0 : MH} {d : Nat} {s : SM} {a1 : Int} {a2 : Int} {F : Int → SM → Prop} (H : (0 ≤ a1 ∧ a1 < 3004) ∧ cm iv L h0 d 89 [vr 307, vi a1, vi a2] (ua (ua s 20 a1 a2) 21 a1 0) (qi fun r3 s2 => ((a2 = (-1) → cm iv L h0 d 87 [vr 307, vi a1] (ua s2 19 a1 r3) (qi fun r5 s4 => F r5 s4)) ∧ (a2 ≠ (-1) → ((s2.2 21 a1 ≠ 0 → cm iv L h0 d 87 [vr 307, vi a1] (ua s2 19 a1 r3) (qi fun r7 s6 => F r7 s6)) ∧ (s2.2 21 a1 = 0 → ((s2.2 9 a1 = 10 → cm iv L h0 d 87 [vr 307, vi a1] (ua s2 19 a1 r3) (qi fun r9 s8 => F r9 s8)) ∧ (s2.2 9 a1 ≠ 10 → ((s2.2 9 a1 = 11 → cm iv L h0 d 87 [vr 307, vi a1] (ua s2 19 a1 r3) (qi fun r11 s10 => F r11 s10)) ∧ (s2.2 9 a1 ≠ 11 → cm iv L h0 d 70 [vr 307, vi a2, vi ((ua s2 19 a1 r3).2 19 a1)] (ua s2 19 a1 r3) (qi fun r13 s12 => ((r13 ≠ 0 → cm iv L h0 d 87 [vr 307, vi a1] s12 (qi fun r15 s14 => F r15 s14)) ∧ (r13 = 0 → cm iv L h0 d 87 [vr 307, vi a1] (ua s12 21 a1 6) (qi fun r17 s16 => F r17 s16)))))))))))))) : cm iv L h0 (d + 1) 88 [vr 307, vi a1, vi a2] s (qi F) := by
  show wm iv L h0 (d + 1) 88 0 [lr 307, li a1, li a2] [] s (qi F)
  refine w_aload_n rfl rfl ?_
  refine m_geta (t := 0) (k := 3004) rfl rfl ?_
  refine w_iload_n rfl rfl ?_
  refine w_iload_n rfl rfl ?_
  obtain ⟨g1, H⟩ := H
  refine m_ast rfl (f := 20) (k := 3004) rfl g1 ?_
  refine w_aload_n rfl rfl ?_
  refine m_geta (t := 0) (k := 3004) rfl rfl ?_
  refine w_iload_n rfl rfl ?_
  refine w_iconst (n := 0) rfl rfl ?_
  refine m_ast rfl (f := 21) (k := 3004) rfl g1 ?_
  refine w_aload_n rfl rfl ?_
  refine m_geta (t := 0) (k := 3004) rfl rfl ?_
  refine w_iload_n rfl rfl ?_
  refine w_aload_n rfl rfl ?_
  refine w_iload_n rfl rfl ?_
  refine w_iload_n rfl rfl ?_
  refine m_call (as := [vi a1, vi a2]) (r := [vi a1, vr 320]) rfl rfl rfl rfl rfl rfl (wc_mono H (Nat.le_refl _) ?_)
  rintro _ s2 ⟨r3, rfl, H⟩
  show wm iv L h0 (d + 1) 88 25 [lr 307, li a1, li a2] [vi r3, vi a1, vr 320] s2 (qi F)
  refine m_ast rfl (f := 19) (k := 3004) rfl g1 ?_
  refine w_iload_n rfl rfl ?_
  refine w_iconst (n := (-1)) rfl rfl ?_
  refine w_icmp_eq rfl (fun h => ?_) (fun h => ?_)
  · replace H := H.1 h
    refine w_iconst (n := 0) rfl rfl ?_
    refine w_istore_n rfl rfl ?_
    refine w_iload_n rfl rfl ?_
    refine w_if_eq rfl (fun _ => ?_) (fun h => absurd h (by decide))
    refine w_aload_n rfl rfl ?_
    refine w_iload_n rfl rfl ?_
    refine m_call (as := [vi a1]) (r := []) rfl rfl rfl rfl rfl rfl (wc_mono H (Nat.le_refl _) ?_)
    rintro _ s4 ⟨r5, rfl, H⟩
    show wm iv L h0 (d + 1) 88 99 [lr 307, li a1, li a2, li 0] [vi r5] s4 (qi F)
    exact w_iret rfl rfl ⟨_, rfl, H⟩
  · replace H := H.2 h
    refine w_aload_n rfl rfl ?_
    refine m_geta (t := 0) (k := 3004) rfl rfl ?_
    refine w_iload_n rfl rfl ?_
    refine m_ald rfl (f := 21) (k := 3004) rfl g1 ?_
    show wm iv L h0 (d + 1) 88 37 [lr 307, li a1, li a2] [vi (s2.2 21 a1)] (ua s2 19 a1 r3) (qi F)
    refine w_if_ne rfl (fun h => ?_) (fun h => ?_)
    · replace H := H.1 h
      refine w_iconst (n := 0) rfl rfl ?_
      refine w_istore_n rfl rfl ?_
      refine w_iload_n rfl rfl ?_
      refine w_if_eq rfl (fun _ => ?_) (fun h => absurd h (by decide))
      refine w_aload_n rfl rfl ?_
      refine w_iload_n rfl rfl ?_
      refine m_call (as := [vi a1]) (r := []) rfl rfl rfl rfl rfl rfl (wc_mono H (Nat.le_refl _) ?_)
      rintro _ s6 ⟨r7, rfl, H⟩
      show wm iv L h0 (d + 1) 88 99 [lr 307, li a1, li a2, li 0] [vi r7] s6 (qi F)
      exact w_iret rfl rfl ⟨_, rfl, H⟩
    · replace H := H.2 h
      refine w_aload_n rfl rfl ?_
      refine m_geta (t := 0) (k := 3004) rfl rfl ?_
      refine w_iload_n rfl rfl ?_
      refine m_ald rfl (f := 9) (k := 3004) rfl g1 ?_
      show wm iv L h0 (d + 1) 88 46 [lr 307, li a1, li a2] [vi (s2.2 9 a1)] (ua s2 19 a1 r3) (qi F)
      refine w_bipush (n := 10) rfl rfl rfl ?_
      refine w_icmp_eq rfl (fun h => ?_) (fun h => ?_)
      · replace H := H.1 h
        refine w_iconst (n := 0) rfl rfl ?_
        refine w_istore_n rfl rfl ?_
        refine w_iload_n rfl rfl ?_
        refine w_if_eq rfl (fun _ => ?_) (fun h => absurd h (by decide))
        refine w_aload_n rfl rfl ?_
        refine w_iload_n rfl rfl ?_
        refine m_call (as := [vi a1]) (r := []) rfl rfl rfl rfl rfl rfl (wc_mono H (Nat.le_refl _) ?_)
        rintro _ s8 ⟨r9, rfl, H⟩
        show wm iv L h0 (d + 1) 88 99 [lr 307, li a1, li a2, li 0] [vi r9] s8 (qi F)
        exact w_iret rfl rfl ⟨_, rfl, H⟩
      · replace H := H.2 h
        refine w_aload_n rfl rfl ?_
        refine m_geta (t := 0) (k := 3004) rfl rfl ?_
        refine w_iload_n rfl rfl ?_
        refine m_ald rfl (f := 9) (k := 3004) rfl g1 ?_
        show wm iv L h0 (d + 1) 88 57 [lr 307, li a1, li a2] [vi (s2.2 9 a1)] (ua s2 19 a1 r3) (qi F)
        refine w_bipush (n := 11) rfl rfl rfl ?_
        refine w_icmp_eq rfl (fun h => ?_) (fun h => ?_)
        · replace H := H.1 h
          refine w_iconst (n := 0) rfl rfl ?_
          refine w_istore_n rfl rfl ?_
          refine w_iload_n rfl rfl ?_
          refine w_if_eq rfl (fun _ => ?_) (fun h => absurd h (by decide))
          refine w_aload_n rfl rfl ?_
          refine w_iload_n rfl rfl ?_
          refine m_call (as := [vi a1]) (r := []) rfl rfl rfl rfl rfl rfl (wc_mono H (Nat.le_refl _) ?_)
          rintro _ s10 ⟨r11, rfl, H⟩
          show wm iv L h0 (d + 1) 88 99 [lr 307, li a1, li a2, li 0] [vi r11] s10 (qi F)
          exact w_iret rfl rfl ⟨_, rfl, H⟩
        · replace H := H.2 h
          refine w_iconst (n := 1) rfl rfl ?_
          refine w_goto rfl ?_
          refine w_istore_n rfl rfl ?_
          refine w_iload_n rfl rfl ?_
          refine w_if_eq rfl (fun h => absurd h (by decide)) (fun _ => ?_)
          refine w_aload_n rfl rfl ?_
          refine w_iload_n rfl rfl ?_
          refine w_aload_n rfl rfl ?_
          refine m_geta (t := 0) (k := 3004) rfl rfl ?_
          refine w_iload_n rfl rfl ?_
          refine m_ald rfl (f := 19) (k := 3004) rfl g1 ?_
          refine m_call (as := [vi a2, vi ((ua s2 19 a1 r3).2 19 a1)]) (r := []) rfl rfl rfl rfl rfl rfl (wc_mono H (Nat.le_refl _) ?_)
          rintro _ s12 ⟨r13, rfl, H⟩
          show wm iv L h0 (d + 1) 88 83 [lr 307, li a1, li a2, li 1] [vi r13] s12 (qi F)
          refine w_if_ne rfl (fun h => ?_) (fun h => ?_)
          · replace H := H.1 h
            refine w_aload_n rfl rfl ?_
            refine w_iload_n rfl rfl ?_
            refine m_call (as := [vi a1]) (r := []) rfl rfl rfl rfl rfl rfl (wc_mono H (Nat.le_refl _) ?_)
            rintro _ s14 ⟨r15, rfl, H⟩
            show wm iv L h0 (d + 1) 88 99 [lr 307, li a1, li a2, li 1] [vi r15] s14 (qi F)
            exact w_iret rfl rfl ⟨_, rfl, H⟩
          · replace H := H.2 h
            refine w_aload_n rfl rfl ?_
            refine m_geta (t := 0) (k := 3004) rfl rfl ?_
            refine w_iload_n rfl rfl ?_
            refine w_bipush (n := 6) rfl rfl rfl ?_
            refine m_ast rfl (f := 21) (k := 3004) rfl g1 ?_
            refine w_aload_n rfl rfl ?_
            refine w_iload_n rfl rfl ?_
            refine m_call (as := [vi a1]) (r := []) rfl rfl rfl rfl rfl rfl (wc_mono H (Nat.le_refl _) ?_)
            rintro _ s16 ⟨r17, rfl, H⟩
            show wm iv L h0 (d + 1) 88 99 [lr 307, li a1, li a2, li 1] [vi r17] s16 (qi F)
            exact w_iret rfl rfl ⟨_, rfl, H⟩

/-- HoleDeskModel.make(II)I -/
theorem B89 {iv : List (Int × Int)} {L : Nat} {h0 : MH} {d : Nat} {s : SM} {a1 : Int} {a2 : Int} {F : Int → SM → Prop} (H : (-2147483648 ≤ 3 * a1 ∧ 3 * a1 ≤ 2147483647) ∧ (0 ≤ 3 * a1 ∧ 3 * a1 < 9012) ∧ (-2147483648 ≤ (3 * a1) + 1 ∧ (3 * a1) + 1 ≤ 2147483647) ∧ (0 ≤ (3 * a1) + 1 ∧ (3 * a1) + 1 < 9012) ∧ (-2147483648 ≤ (3 * a1) + 2 ∧ (3 * a1) + 2 ≤ 2147483647) ∧ (0 ≤ (3 * a1) + 2 ∧ (3 * a1) + 2 < 9012) ∧ (0 ≤ a1 ∧ a1 < 3004) ∧ ((s.2 9 a1 = 0 → F 0 s) ∧ (s.2 9 a1 = 1 → F 1 s) ∧ (s.2 9 a1 = 2 → F 2 s) ∧ (s.2 9 a1 = 3 → cm iv L h0 d 85 [vr 307, vi a1, vi (s.2 10 a1)] s (qi fun r9 s8 => ((r9 ≠ (-9) → (0 ≤ r9 ∧ r9 < 3004) ∧ ((s8.2 9 r9 ≠ 8 → (-2147483648 ≤ 3 * r9 ∧ 3 * r9 ≤ 2147483647) ∧ (0 ≤ 3 * r9 ∧ 3 * r9 < 9012) ∧ cm iv L h0 d 87 [vr 307, vi (s8.2 14 (3 * r9))] s8 (qi fun r14 s13 => F r14 s13)) ∧ (s8.2 9 r9 = 8 → F (s8.2 11 r9) s8))) ∧ (r9 = (-9) → F 0 (ua s8 21 a1 1))))) ∧ (s.2 9 a1 = 4 ∨ s.2 9 a1 = 5 ∨ s.2 9 a1 = 6 ∨ s.2 9 a1 = 7 → cm iv L h0 d 88 [vr 307, vi (s.2 14 (3 * a1)), vi 1] s (qi fun r16 s15 => cm iv L h0 d 88 [vr 307, vi (s.2 14 ((3 * a1) + 1)), vi 1] s15 (qi fun r18 s17 => ((s17.2 9 a1 ≠ 7 → F 1 s17) ∧ (s17.2 9 a1 = 7 → F 2 s17))))) ∧ (s.2 9 a1 = 8 → cm iv L h0 d 90 [vr 307, vi a1, vi a2, vi (s.2 14 (3 * a1))] s (qi fun r20 s19 => F r20 s19)) ∧ (s.2 9 a1 = 9 → cm iv L h0 d 91 [vr 307, vi (s.2 14 (3 * a1)), vi (s.2 14 ((3 * a1) + 1))] s (qi fun r22 s21 => F r22 s21)) ∧ (s.2 9 a1 = 10 → cm iv L h0 d 88 [vr 307, vi (s.2 14 (3 * a1)), vi (-1)] s (qi fun r24 s23 => cm iv L h0 d 88 [vr 307, vi (s.2 14 ((3 * a1) + 1)), vi a2] s23 (qi fun r26 s25 => F r26 s25))) ∧ (s.2 9 a1 = 11 → cm iv L h0 d 92 [vr 307, vi a1, vi a2, vi (s.2 14 (3 * a1)), vi (s.2 14 ((3 * a1) + 1)), vi (s.2 14 ((3 * a1) + 2))] s (qi fun r28 s27 => F r28 s27)) ∧ (s.2 9 a1 = 12 → cm iv L h0 d 93 [vr 307, vi a2, vi (s.2 14 (3 * a1)), vi (s.2 14 ((3 * a1) + 1))] s (qi fun r30 s29 => F r30 s29)) ∧ (s.2 9 a1 = 13 ∨ s.2 9 a1 = 14 ∨ s.2 9 a1 < 0 ∨ 15 < s.2 9 a1 → cm iv L h0 d 88 [vr 307, vi (s.2 14 (3 * a1)), vi (-1)] s (qi fun r32 s31 => ((r32 ≠ 0 → (0 ≤ r32 ∧ r32 < 6000) ∧ ((s31.2 4 r32 ≠ 4 → (0 ≤ s.2 14 (3 * a1) ∧ s.2 14 (3 * a1) < 3004) ∧ ((s31.2 21 (s.2 14 (3 * a1)) ≠ 0 → F 0 (ua s31 21 (s.2 14 (3 * a1)) (s31.2 21 (s.2 14 (3 * a1))))) ∧ (s31.2 21 (s.2 14 (3 * a1)) = 0 → F 0 (ua s31 21 (s.2 14 (3 * a1)) 3)))) ∧ (s31.2 4 r32 = 4 → ((s31.2 9 a1 ≠ 13 → F (s31.2 6 r32) s31) ∧ (s31.2 9 a1 = 13 → F (s31.2 5 r32) s31))))) ∧ (r32 = 0 → F 0 s31)))) ∧ (s.2 9 a1 = 15 → cm iv L h0 d 88 [vr 307, vi (s.2 14 (3 * a1)), vi (s.2 11 a1)] s (qi fun r36 s35 => F (s35.2 11 a1) s35)))) : cm iv L h0 (d + 1) 89 [vr 307, vi a1, vi a2] s (qi F) := by
  show wm iv L h0 (d + 1) 89 0 [lr 307, li a1, li a2] [] s (qi F)
  refine w_aload_n rfl rfl ?_
  refine m_geta (t := 0) (k := 9012) rfl rfl ?_
  refine w_iconst (n := 3) rfl rfl ?_
  refine w_iload_n rfl rfl ?_
  obtain ⟨g1, H⟩ := H
  refine w_imul rfl g1 ?_
  obtain ⟨g2, H⟩ := H
  refine m_ald rfl (f := 14) (k := 9012) rfl g2 ?_
  refine w_istore_n rfl rfl ?_
  refine w_aload_n rfl rfl ?_
  refine m_geta (t := 0) (k := 9012) rfl rfl ?_
  refine w_iconst (n := 3) rfl rfl ?_
  refine w_iload_n rfl rfl ?_
  refine w_imul rfl g1 ?_
  refine w_iconst (n := 1) rfl rfl ?_
  obtain ⟨g3, H⟩ := H
  refine w_iadd rfl g3 ?_
  obtain ⟨g4, H⟩ := H
  refine m_ald rfl (f := 14) (k := 9012) rfl g4 ?_
  refine w_istore rfl rfl ?_
  refine w_aload_n rfl rfl ?_
  refine m_geta (t := 0) (k := 9012) rfl rfl ?_
  refine w_iconst (n := 3) rfl rfl ?_
  refine w_iload_n rfl rfl ?_
  refine w_imul rfl g1 ?_
  refine w_iconst (n := 2) rfl rfl ?_
  obtain ⟨g5, H⟩ := H
  refine w_iadd rfl g5 ?_
  obtain ⟨g6, H⟩ := H
  refine m_ald rfl (f := 14) (k := 9012) rfl g6 ?_
  refine w_istore rfl rfl ?_
  refine w_aload_n rfl rfl ?_
  refine m_geta (t := 0) (k := 3004) rfl rfl ?_
  refine w_iload_n rfl rfl ?_
  obtain ⟨g7, H⟩ := H
  refine m_ald rfl (f := 9) (k := 3004) rfl g7 ?_
  have J116 : (s.2 9 a1 = 0) → wm iv L h0 (d + 1) 89 116 [lr 307, li a1, li a2, li (s.2 14 (3 * a1)), li (s.2 14 ((3 * a1) + 1)), li (s.2 14 ((3 * a1) + 2))] [] s (qi F) := fun h => by
    replace H := H.1 h
    refine w_iconst (n := 0) rfl rfl ?_
    exact w_iret rfl rfl ⟨_, rfl, H⟩
  have J118 : (s.2 9 a1 = 1) → wm iv L h0 (d + 1) 89 118 [lr 307, li a1, li a2, li (s.2 14 (3 * a1)), li (s.2 14 ((3 * a1) + 1)), li (s.2 14 ((3 * a1) + 2))] [] s (qi F) := fun h => by
    replace H := H.2.1 h
    refine w_iconst (n := 1) rfl rfl ?_
    exact w_iret rfl rfl ⟨_, rfl, H⟩
  have J120 : (s.2 9 a1 = 2) → wm iv L h0 (d + 1) 89 120 [lr 307, li a1, li a2, li (s.2 14 (3 * a1)), li (s.2 14 ((3 * a1) + 1)), li (s.2 14 ((3 * a1) + 2))] [] s (qi F) := fun h => by
    replace H := H.2.2.1 h
    refine w_iconst (n := 2) rfl rfl ?_
    exact w_iret rfl rfl ⟨_, rfl, H⟩
  have J122 : (s.2 9 a1 = 3) → wm iv L h0 (d + 1) 89 122 [lr 307, li a1, li a2, li (s.2 14 (3 * a1)), li (s.2 14 ((3 * a1) + 1)), li (s.2 14 ((3 * a1) + 2))] [] s (qi F) := fun h => by
    replace H := H.2.2.2.1 h
    refine w_aload_n rfl rfl ?_
    refine w_iload_n rfl rfl ?_
    refine w_aload_n rfl rfl ?_
    refine m_geta (t := 0) (k := 3004) rfl rfl ?_
    refine w_iload_n rfl rfl ?_
    refine m_ald rfl (f := 10) (k := 3004) rfl g7 ?_
    refine m_call (as := [vi a1, vi (s.2 10 a1)]) (r := []) rfl rfl rfl rfl rfl rfl (wc_mono H (Nat.le_refl _) ?_)
    rintro _ s8 ⟨r9, rfl, H⟩
    show wm iv L h0 (d + 1) 89 133 [lr 307, li a1, li a2, li (s.2 14 (3 * a1)), li (s.2 14 ((3 * a1) + 1)), li (s.2 14 ((3 * a1) + 2))] [vi r9] s8 (qi F)
    refine w_istore rfl rfl ?_
    refine w_iload rfl rfl ?_
    refine w_bipush (n := (-9)) rfl rfl rfl ?_
    refine w_icmp_ne rfl (fun h => ?_) (fun h => ?_)
    · replace H := H.1 h
      refine w_aload_n rfl rfl ?_
      refine m_geta (t := 0) (k := 3004) rfl rfl ?_
      refine w_iload rfl rfl ?_
      obtain ⟨g10, H⟩ := H
      refine m_ald rfl (f := 9) (k := 3004) rfl g10 ?_
      refine w_bipush (n := 8) rfl rfl rfl ?_
      refine w_icmp_ne rfl (fun h => ?_) (fun h => ?_)
      · replace H := H.1 h
        refine w_aload_n rfl rfl ?_
        refine w_aload_n rfl rfl ?_
        refine m_geta (t := 0) (k := 9012) rfl rfl ?_
        refine w_iconst (n := 3) rfl rfl ?_
        refine w_iload rfl rfl ?_
        obtain ⟨g11, H⟩ := H
        refine w_imul rfl g11 ?_
        obtain ⟨g12, H⟩ := H
        refine m_ald rfl (f := 14) (k := 9012) rfl g12 ?_
        refine m_call (as := [vi (s8.2 14 (3 * r9))]) (r := []) rfl rfl rfl rfl rfl rfl (wc_mono H (Nat.le_refl _) ?_)
        rintro _ s13 ⟨r14, rfl, H⟩
        show wm iv L h0 (d + 1) 89 186 [lr 307, li a1, li a2, li (s.2 14 (3 * a1)), li (s.2 14 ((3 * a1) + 1)), li (s.2 14 ((3 * a1) + 2)), li r9] [vi r14] s13 (qi F)
        exact w_iret rfl rfl ⟨_, rfl, H⟩
      · replace H := H.2 h
        refine w_aload_n rfl rfl ?_
        refine m_geta (t := 0) (k := 3004) rfl rfl ?_
        refine w_iload rfl rfl ?_
        refine m_ald rfl (f := 11) (k := 3004) rfl g10 ?_
        refine w_goto rfl ?_
        exact w_iret rfl rfl ⟨_, rfl, H⟩
    · replace H := H.2 h
      refine w_aload_n rfl rfl ?_
      refine m_geta (t := 0) (k := 3004) rfl rfl ?_
      refine w_iload_n rfl rfl ?_
      refine w_iconst (n := 1) rfl rfl ?_
      refine m_ast rfl (f := 21) (k := 3004) rfl g7 ?_
      refine w_iconst (n := 0) rfl rfl ?_
      exact w_iret rfl rfl ⟨_, rfl, H⟩
  have J187 : (s.2 9 a1 = 4 ∨ s.2 9 a1 = 5 ∨ s.2 9 a1 = 6 ∨ s.2 9 a1 = 7) → wm iv L h0 (d + 1) 89 187 [lr 307, li a1, li a2, li (s.2 14 (3 * a1)), li (s.2 14 ((3 * a1) + 1)), li (s.2 14 ((3 * a1) + 2))] [] s (qi F) := fun h => by
    replace H := H.2.2.2.2.1 h
    refine w_aload_n rfl rfl ?_
    refine w_iload_n rfl rfl ?_
    refine w_iconst (n := 1) rfl rfl ?_
    refine m_call (as := [vi (s.2 14 (3 * a1)), vi 1]) (r := []) rfl rfl rfl rfl rfl rfl (wc_mono H (Nat.le_refl _) ?_)
    rintro _ s15 ⟨r16, rfl, H⟩
    show wm iv L h0 (d + 1) 89 193 [lr 307, li a1, li a2, li (s.2 14 (3 * a1)), li (s.2 14 ((3 * a1) + 1)), li (s.2 14 ((3 * a1) + 2))] [vi r16] s15 (qi F)
    refine w_istore rfl rfl ?_
    refine w_aload_n rfl rfl ?_
    refine w_iload rfl rfl ?_
    refine w_iconst (n := 1) rfl rfl ?_
    refine m_call (as := [vi (s.2 14 ((3 * a1) + 1)), vi 1]) (r := []) rfl rfl rfl rfl rfl rfl (wc_mono H (Nat.le_refl _) ?_)
    rintro _ s17 ⟨r18, rfl, H⟩
    show wm iv L h0 (d + 1) 89 202 [lr 307, li a1, li a2, li (s.2 14 (3 * a1)), li (s.2 14 ((3 * a1) + 1)), li (s.2 14 ((3 * a1) + 2)), li r16] [vi r18] s17 (qi F)
    refine w_istore rfl rfl ?_
    refine w_aload_n rfl rfl ?_
    refine m_geta (t := 0) (k := 3004) rfl rfl ?_
    refine w_iload_n rfl rfl ?_
    refine m_ald rfl (f := 9) (k := 3004) rfl g7 ?_
    refine w_bipush (n := 7) rfl rfl rfl ?_
    refine w_icmp_ne rfl (fun h => ?_) (fun h => ?_)
    · replace H := H.1 h
      refine w_iconst (n := 1) rfl rfl ?_
      exact w_iret rfl rfl ⟨_, rfl, H⟩
    · replace H := H.2 h
      refine w_iconst (n := 2) rfl rfl ?_
      refine w_goto rfl ?_
      exact w_iret rfl rfl ⟨_, rfl, H⟩
  have J221 : (s.2 9 a1 = 8) → wm iv L h0 (d + 1) 89 221 [lr 307, li a1, li a2, li (s.2 14 (3 * a1)), li (s.2 14 ((3 * a1) + 1)), li (s.2 14 ((3 * a1) + 2))] [] s (qi F) := fun h => by
    replace H := H.2.2.2.2.2.1 h
    refine w_aload_n rfl rfl ?_
    refine w_iload_n rfl rfl ?_
    refine w_iload_n rfl rfl ?_
    refine w_iload_n rfl rfl ?_
    refine m_call (as := [vi a1, vi a2, vi (s.2 14 (3 * a1))]) (r := []) rfl rfl rfl rfl rfl rfl (wc_mono H (Nat.le_refl _) ?_)
    rintro _ s19 ⟨r20, rfl, H⟩
    show wm iv L h0 (d + 1) 89 228 [lr 307, li a1, li a2, li (s.2 14 (3 * a1)), li (s.2 14 ((3 * a1) + 1)), li (s.2 14 ((3 * a1) + 2))] [vi r20] s19 (qi F)
    exact w_iret rfl rfl ⟨_, rfl, H⟩
  have J229 : (s.2 9 a1 = 9) → wm iv L h0 (d + 1) 89 229 [lr 307, li a1, li a2, li (s.2 14 (3 * a1)), li (s.2 14 ((3 * a1) + 1)), li (s.2 14 ((3 * a1) + 2))] [] s (qi F) := fun h => by
    replace H := H.2.2.2.2.2.2.1 h
    refine w_aload_n rfl rfl ?_
    refine w_iload_n rfl rfl ?_
    refine w_iload rfl rfl ?_
    refine m_call (as := [vi (s.2 14 (3 * a1)), vi (s.2 14 ((3 * a1) + 1))]) (r := []) rfl rfl rfl rfl rfl rfl (wc_mono H (Nat.le_refl _) ?_)
    rintro _ s21 ⟨r22, rfl, H⟩
    show wm iv L h0 (d + 1) 89 236 [lr 307, li a1, li a2, li (s.2 14 (3 * a1)), li (s.2 14 ((3 * a1) + 1)), li (s.2 14 ((3 * a1) + 2))] [vi r22] s21 (qi F)
    exact w_iret rfl rfl ⟨_, rfl, H⟩
  have J237 : (s.2 9 a1 = 10) → wm iv L h0 (d + 1) 89 237 [lr 307, li a1, li a2, li (s.2 14 (3 * a1)), li (s.2 14 ((3 * a1) + 1)), li (s.2 14 ((3 * a1) + 2))] [] s (qi F) := fun h => by
    replace H := H.2.2.2.2.2.2.2.1 h
    refine w_aload_n rfl rfl ?_
    refine w_iload_n rfl rfl ?_
    refine w_iconst (n := (-1)) rfl rfl ?_
    refine m_call (as := [vi (s.2 14 (3 * a1)), vi (-1)]) (r := []) rfl rfl rfl rfl rfl rfl (wc_mono H (Nat.le_refl _) ?_)
    rintro _ s23 ⟨r24, rfl, H⟩
    show wm iv L h0 (d + 1) 89 243 [lr 307, li a1, li a2, li (s.2 14 (3 * a1)), li (s.2 14 ((3 * a1) + 1)), li (s.2 14 ((3 * a1) + 2))] [vi r24] s23 (qi F)
    refine w_istore rfl rfl ?_
    refine w_aload_n rfl rfl ?_
    refine w_iload rfl rfl ?_
    refine w_iload_n rfl rfl ?_
    refine m_call (as := [vi (s.2 14 ((3 * a1) + 1)), vi a2]) (r := []) rfl rfl rfl rfl rfl rfl (wc_mono H (Nat.le_refl _) ?_)
    rintro _ s25 ⟨r26, rfl, H⟩
    show wm iv L h0 (d + 1) 89 252 [lr 307, li a1, li a2, li (s.2 14 (3 * a1)), li (s.2 14 ((3 * a1) + 1)), li (s.2 14 ((3 * a1) + 2)), li r24] [vi r26] s25 (qi F)
    exact w_iret rfl rfl ⟨_, rfl, H⟩
  have J253 : (s.2 9 a1 = 11) → wm iv L h0 (d + 1) 89 253 [lr 307, li a1, li a2, li (s.2 14 (3 * a1)), li (s.2 14 ((3 * a1) + 1)), li (s.2 14 ((3 * a1) + 2))] [] s (qi F) := fun h => by
    replace H := H.2.2.2.2.2.2.2.2.1 h
    refine w_aload_n rfl rfl ?_
    refine w_iload_n rfl rfl ?_
    refine w_iload_n rfl rfl ?_
    refine w_iload_n rfl rfl ?_
    refine w_iload rfl rfl ?_
    refine w_iload rfl rfl ?_
    refine m_call (as := [vi a1, vi a2, vi (s.2 14 (3 * a1)), vi (s.2 14 ((3 * a1) + 1)), vi (s.2 14 ((3 * a1) + 2))]) (r := []) rfl rfl rfl rfl rfl rfl (wc_mono H (Nat.le_refl _) ?_)
    rintro _ s27 ⟨r28, rfl, H⟩
    show wm iv L h0 (d + 1) 89 264 [lr 307, li a1, li a2, li (s.2 14 (3 * a1)), li (s.2 14 ((3 * a1) + 1)), li (s.2 14 ((3 * a1) + 2))] [vi r28] s27 (qi F)
    exact w_iret rfl rfl ⟨_, rfl, H⟩
  have J265 : (s.2 9 a1 = 12) → wm iv L h0 (d + 1) 89 265 [lr 307, li a1, li a2, li (s.2 14 (3 * a1)), li (s.2 14 ((3 * a1) + 1)), li (s.2 14 ((3 * a1) + 2))] [] s (qi F) := fun h => by
    replace H := H.2.2.2.2.2.2.2.2.2.1 h
    refine w_aload_n rfl rfl ?_
    refine w_iload_n rfl rfl ?_
    refine w_iload_n rfl rfl ?_
    refine w_iload rfl rfl ?_
    refine m_call (as := [vi a2, vi (s.2 14 (3 * a1)), vi (s.2 14 ((3 * a1) + 1))]) (r := []) rfl rfl rfl rfl rfl rfl (wc_mono H (Nat.le_refl _) ?_)
    rintro _ s29 ⟨r30, rfl, H⟩
    show wm iv L h0 (d + 1) 89 273 [lr 307, li a1, li a2, li (s.2 14 (3 * a1)), li (s.2 14 ((3 * a1) + 1)), li (s.2 14 ((3 * a1) + 2))] [vi r30] s29 (qi F)
    exact w_iret rfl rfl ⟨_, rfl, H⟩
  have J294 : (s.2 9 a1 = 13 ∨ s.2 9 a1 = 14 ∨ s.2 9 a1 < 0 ∨ 15 < s.2 9 a1) → wm iv L h0 (d + 1) 89 294 [lr 307, li a1, li a2, li (s.2 14 (3 * a1)), li (s.2 14 ((3 * a1) + 1)), li (s.2 14 ((3 * a1) + 2))] [] s (qi F) := fun h => by
    replace H := H.2.2.2.2.2.2.2.2.2.2.1 h
    refine w_aload_n rfl rfl ?_
    refine w_iload_n rfl rfl ?_
    refine w_iconst (n := (-1)) rfl rfl ?_
    refine m_call (as := [vi (s.2 14 (3 * a1)), vi (-1)]) (r := []) rfl rfl rfl rfl rfl rfl (wc_mono H (Nat.le_refl _) ?_)
    rintro _ s31 ⟨r32, rfl, H⟩
    show wm iv L h0 (d + 1) 89 300 [lr 307, li a1, li a2, li (s.2 14 (3 * a1)), li (s.2 14 ((3 * a1) + 1)), li (s.2 14 ((3 * a1) + 2))] [vi r32] s31 (qi F)
    refine w_istore rfl rfl ?_
    refine w_iload rfl rfl ?_
    refine w_if_ne rfl (fun h => ?_) (fun h => ?_)
    · replace H := H.1 h
      refine w_aload_n rfl rfl ?_
      refine m_geta (t := 0) (k := 6000) rfl rfl ?_
      refine w_iload rfl rfl ?_
      obtain ⟨g33, H⟩ := H
      refine m_ald rfl (f := 4) (k := 6000) rfl g33 ?_
      refine w_iconst (n := 4) rfl rfl ?_
      refine w_icmp_ne rfl (fun h => ?_) (fun h => ?_)
      · replace H := H.1 h
        refine w_aload_n rfl rfl ?_
        refine m_geta (t := 0) (k := 3004) rfl rfl ?_
        refine w_iload_n rfl rfl ?_
        refine w_aload_n rfl rfl ?_
        refine m_geta (t := 0) (k := 3004) rfl rfl ?_
        refine w_iload_n rfl rfl ?_
        obtain ⟨g34, H⟩ := H
        refine m_ald rfl (f := 21) (k := 3004) rfl g34 ?_
        refine w_if_ne rfl (fun h => ?_) (fun h => ?_)
        · replace H := H.1 h
          refine w_aload_n rfl rfl ?_
          refine m_geta (t := 0) (k := 3004) rfl rfl ?_
          refine w_iload_n rfl rfl ?_
          refine m_ald rfl (f := 21) (k := 3004) rfl g34 ?_
          refine m_ast rfl (f := 21) (k := 3004) rfl g34 ?_
          refine w_iconst (n := 0) rfl rfl ?_
          exact w_iret rfl rfl ⟨_, rfl, H⟩
        · replace H := H.2 h
          refine w_iconst (n := 3) rfl rfl ?_
          refine w_goto rfl ?_
          refine m_ast rfl (f := 21) (k := 3004) rfl g34 ?_
          refine w_iconst (n := 0) rfl rfl ?_
          exact w_iret rfl rfl ⟨_, rfl, H⟩
      · replace H := H.2 h
        refine w_aload_n rfl rfl ?_
        refine m_geta (t := 0) (k := 3004) rfl rfl ?_
        refine w_iload_n rfl rfl ?_
        refine m_ald rfl (f := 9) (k := 3004) rfl g7 ?_
        refine w_bipush (n := 13) rfl rfl rfl ?_
        refine w_icmp_ne rfl (fun h => ?_) (fun h => ?_)
        · replace H := H.1 h
          refine w_aload_n rfl rfl ?_
          refine m_geta (t := 0) (k := 6000) rfl rfl ?_
          refine w_iload rfl rfl ?_
          refine m_ald rfl (f := 6) (k := 6000) rfl g33 ?_
          exact w_iret rfl rfl ⟨_, rfl, H⟩
        · replace H := H.2 h
          refine w_aload_n rfl rfl ?_
          refine m_geta (t := 0) (k := 6000) rfl rfl ?_
          refine w_iload rfl rfl ?_
          refine m_ald rfl (f := 5) (k := 6000) rfl g33 ?_
          refine w_goto rfl ?_
          exact w_iret rfl rfl ⟨_, rfl, H⟩
    · replace H := H.2 h
      refine w_iconst (n := 0) rfl rfl ?_
      exact w_iret rfl rfl ⟨_, rfl, H⟩
  have J274 : (s.2 9 a1 = 15) → wm iv L h0 (d + 1) 89 274 [lr 307, li a1, li a2, li (s.2 14 (3 * a1)), li (s.2 14 ((3 * a1) + 1)), li (s.2 14 ((3 * a1) + 2))] [] s (qi F) := fun h => by
    replace H := H.2.2.2.2.2.2.2.2.2.2.2 h
    refine w_aload_n rfl rfl ?_
    refine w_iload_n rfl rfl ?_
    refine w_aload_n rfl rfl ?_
    refine m_geta (t := 0) (k := 3004) rfl rfl ?_
    refine w_iload_n rfl rfl ?_
    refine m_ald rfl (f := 11) (k := 3004) rfl g7 ?_
    refine m_call (as := [vi (s.2 14 (3 * a1)), vi (s.2 11 a1)]) (r := []) rfl rfl rfl rfl rfl rfl (wc_mono H (Nat.le_refl _) ?_)
    rintro _ s35 ⟨r36, rfl, H⟩
    show wm iv L h0 (d + 1) 89 285 [lr 307, li a1, li a2, li (s.2 14 (3 * a1)), li (s.2 14 ((3 * a1) + 1)), li (s.2 14 ((3 * a1) + 2))] [vi r36] s35 (qi F)
    refine w_istore rfl rfl ?_
    refine w_aload_n rfl rfl ?_
    refine m_geta (t := 0) (k := 3004) rfl rfl ?_
    refine w_iload_n rfl rfl ?_
    refine m_ald rfl (f := 11) (k := 3004) rfl g7 ?_
    exact w_iret rfl rfl ⟨_, rfl, H⟩
  refine w_tsw (td := 294) (ts := [116, 118, 120, 122, 187, 187, 187, 187, 221, 229, 237, 253, 265, 294, 294, 274]) rfl rfl rfl rfl rfl rfl (fun h => J294 (by omega)) ?_
  exact swA_c (fun h => J116 (by omega)) (swA_c (fun h => J118 (by omega)) (swA_c (fun h => J120 (by omega)) (swA_c (fun h => J122 (by omega)) (swA_c (fun h => J187 (by omega)) (swA_c (fun h => J187 (by omega)) (swA_c (fun h => J187 (by omega)) (swA_c (fun h => J187 (by omega)) (swA_c (fun h => J221 (by omega)) (swA_c (fun h => J229 (by omega)) (swA_c (fun h => J237 (by omega)) (swA_c (fun h => J253 (by omega)) (swA_c (fun h => J265 (by omega)) (swA_c (fun h => J294 (by omega)) (swA_c (fun h => J294 (by omega)) (swA_c (fun h => J274 (by omega)) (swA_n))))))))))))))))

/-- HoleDeskModel.makeDef(III)I -/
theorem B90 {iv : List (Int × Int)} {L : Nat} {h0 : MH} {d : Nat} {s : SM} {a1 : Int} {a2 : Int} {a3 : Int} {F : Int → SM → Prop} (H : (0 ≤ a1 ∧ a1 < 3004) ∧ ((a2 = (-1) → ((a2 ≠ 0 → cm iv L h0 d 88 [vr 307, vi a3, vi (-1)] s (qi fun r3 s2 => cm iv L h0 d 65 [vr 307, vi 3, vi (s.2 11 a1), vi r3] s2 (qi fun r5 s4 => F r5 s4))) ∧ (a2 = 0 → cm iv L h0 d 88 [vr 307, vi a3, vi 0] s (qi fun r7 s6 => cm iv L h0 d 65 [vr 307, vi 3, vi (s.2 11 a1), vi r7] s6 (qi fun r9 s8 => F r9 s8))))) ∧ (a2 ≠ (-1) → (0 ≤ a2 ∧ a2 < 6000) ∧ ((s.2 4 a2 ≠ 3 → ((a2 ≠ 0 → cm iv L h0 d 88 [vr 307, vi a3, vi (-1)] s (qi fun r12 s11 => cm iv L h0 d 65 [vr 307, vi 3, vi (s.2 11 a1), vi r12] s11 (qi fun r14 s13 => F r14 s13))) ∧ (a2 = 0 → cm iv L h0 d 88 [vr 307, vi a3, vi 0] s (qi fun r16 s15 => cm iv L h0 d 65 [vr 307, vi 3, vi (s.2 11 a1), vi r16] s15 (qi fun r18 s17 => F r18 s17))))) ∧ (s.2 4 a2 = 3 → cm iv L h0 d 88 [vr 307, vi a3, vi (s.2 6 a2)] s (qi fun r20 s19 => cm iv L h0 d 70 [vr 307, vi (s.2 11 a1), vi (s19.2 5 a2)] s19 (qi fun r22 s21 => ((r22 = 0 → cm iv L h0 d 65 [vr 307, vi 3, vi (s.2 11 a1), vi r20] (ua s21 21 a1 4) (qi fun r24 s23 => F r24 s23)) ∧ (r22 ≠ 0 → cm iv L h0 d 65 [vr 307, vi 3, vi (s.2 11 a1), vi r20] (ua s21 21 a1 0) (qi fun r26 s25 => F r26 s25)))))))))) : cm iv L h0 (d + 1) 90 [vr 307, vi a1, vi a2, vi a3] s (qi F) := by
  show wm iv L h0 (d + 1) 90 0 [lr 307, li a1, li a2, li a3] [] s (qi F)
  refine w_aload_n rfl rfl ?_
  refine m_geta (t := 0) (k := 3004) rfl rfl ?_
  refine w_iload_n rfl rfl ?_
  obtain ⟨g1, H⟩ := H
  refine m_ald rfl (f := 11) (k := 3004) rfl g1 ?_
  refine w_istore rfl rfl ?_
  refine w_iload_n rfl rfl ?_
  refine w_iconst (n := (-1)) rfl rfl ?_
  refine w_icmp_eq rfl (fun h => ?_) (fun h => ?_)
  · replace H := H.1 h
    refine w_aload_n rfl rfl ?_
    refine w_iconst (n := 3) rfl rfl ?_
    refine w_iload rfl rfl ?_
    refine w_aload_n rfl rfl ?_
    refine w_iload_n rfl rfl ?_
    refine w_iload_n rfl rfl ?_
    refine w_if_ne rfl (fun h => ?_) (fun h => ?_)
    · replace H := H.1 h
      refine w_iconst (n := (-1)) rfl rfl ?_
      refine m_call (as := [vi a3, vi (-1)]) (r := [vi (s.2 11 a1), vi 3, vr 307]) rfl rfl rfl rfl rfl rfl (wc_mono H (Nat.le_refl _) ?_)
      rintro _ s2 ⟨r3, rfl, H⟩
      show wm iv L h0 (d + 1) 90 90 [lr 307, li a1, li a2, li a3, li (s.2 11 a1)] [vi r3, vi (s.2 11 a1), vi 3, vr 307] s2 (qi F)
      refine m_call (as := [vi 3, vi (s.2 11 a1), vi r3]) (r := []) rfl rfl rfl rfl rfl rfl (wc_mono H (Nat.le_refl _) ?_)
      rintro _ s4 ⟨r5, rfl, H⟩
      show wm iv L h0 (d + 1) 90 93 [lr 307, li a1, li a2, li a3, li (s.2 11 a1)] [vi r5] s4 (qi F)
      exact w_iret rfl rfl ⟨_, rfl, H⟩
    · replace H := H.2 h
      refine w_iconst (n := 0) rfl rfl ?_
      refine w_goto rfl ?_
      refine m_call (as := [vi a3, vi 0]) (r := [vi (s.2 11 a1), vi 3, vr 307]) rfl rfl rfl rfl rfl rfl (wc_mono H (Nat.le_refl _) ?_)
      rintro _ s6 ⟨r7, rfl, H⟩
      show wm iv L h0 (d + 1) 90 90 [lr 307, li a1, li a2, li a3, li (s.2 11 a1)] [vi r7, vi (s.2 11 a1), vi 3, vr 307] s6 (qi F)
      refine m_call (as := [vi 3, vi (s.2 11 a1), vi r7]) (r := []) rfl rfl rfl rfl rfl rfl (wc_mono H (Nat.le_refl _) ?_)
      rintro _ s8 ⟨r9, rfl, H⟩
      show wm iv L h0 (d + 1) 90 93 [lr 307, li a1, li a2, li a3, li (s.2 11 a1)] [vi r9] s8 (qi F)
      exact w_iret rfl rfl ⟨_, rfl, H⟩
  · replace H := H.2 h
    refine w_aload_n rfl rfl ?_
    refine m_geta (t := 0) (k := 6000) rfl rfl ?_
    refine w_iload_n rfl rfl ?_
    obtain ⟨g10, H⟩ := H
    refine m_ald rfl (f := 4) (k := 6000) rfl g10 ?_
    refine w_iconst (n := 3) rfl rfl ?_
    refine w_icmp_ne rfl (fun h => ?_) (fun h => ?_)
    · replace H := H.1 h
      refine w_aload_n rfl rfl ?_
      refine w_iconst (n := 3) rfl rfl ?_
      refine w_iload rfl rfl ?_
      refine w_aload_n rfl rfl ?_
      refine w_iload_n rfl rfl ?_
      refine w_iload_n rfl rfl ?_
      refine w_if_ne rfl (fun h => ?_) (fun h => ?_)
      · replace H := H.1 h
        refine w_iconst (n := (-1)) rfl rfl ?_
        refine m_call (as := [vi a3, vi (-1)]) (r := [vi (s.2 11 a1), vi 3, vr 307]) rfl rfl rfl rfl rfl rfl (wc_mono H (Nat.le_refl _) ?_)
        rintro _ s11 ⟨r12, rfl, H⟩
        show wm iv L h0 (d + 1) 90 90 [lr 307, li a1, li a2, li a3, li (s.2 11 a1)] [vi r12, vi (s.2 11 a1), vi 3, vr 307] s11 (qi F)
        refine m_call (as := [vi 3, vi (s.2 11 a1), vi r12]) (r := []) rfl rfl rfl rfl rfl rfl (wc_mono H (Nat.le_refl _) ?_)
        rintro _ s13 ⟨r14, rfl, H⟩
        show wm iv L h0 (d + 1) 90 93 [lr 307, li a1, li a2, li a3, li (s.2 11 a1)] [vi r14] s13 (qi F)
        exact w_iret rfl rfl ⟨_, rfl, H⟩
      · replace H := H.2 h
        refine w_iconst (n := 0) rfl rfl ?_
        refine w_goto rfl ?_
        refine m_call (as := [vi a3, vi 0]) (r := [vi (s.2 11 a1), vi 3, vr 307]) rfl rfl rfl rfl rfl rfl (wc_mono H (Nat.le_refl _) ?_)
        rintro _ s15 ⟨r16, rfl, H⟩
        show wm iv L h0 (d + 1) 90 90 [lr 307, li a1, li a2, li a3, li (s.2 11 a1)] [vi r16, vi (s.2 11 a1), vi 3, vr 307] s15 (qi F)
        refine m_call (as := [vi 3, vi (s.2 11 a1), vi r16]) (r := []) rfl rfl rfl rfl rfl rfl (wc_mono H (Nat.le_refl _) ?_)
        rintro _ s17 ⟨r18, rfl, H⟩
        show wm iv L h0 (d + 1) 90 93 [lr 307, li a1, li a2, li a3, li (s.2 11 a1)] [vi r18] s17 (qi F)
        exact w_iret rfl rfl ⟨_, rfl, H⟩
    · replace H := H.2 h
      refine w_aload_n rfl rfl ?_
      refine w_iload_n rfl rfl ?_
      refine w_aload_n rfl rfl ?_
      refine m_geta (t := 0) (k := 6000) rfl rfl ?_
      refine w_iload_n rfl rfl ?_
      refine m_ald rfl (f := 6) (k := 6000) rfl g10 ?_
      refine m_call (as := [vi a3, vi (s.2 6 a2)]) (r := []) rfl rfl rfl rfl rfl rfl (wc_mono H (Nat.le_refl _) ?_)
      rintro _ s19 ⟨r20, rfl, H⟩
      show wm iv L h0 (d + 1) 90 34 [lr 307, li a1, li a2, li a3, li (s.2 11 a1)] [vi r20] s19 (qi F)
      refine w_istore rfl rfl ?_
      refine w_aload_n rfl rfl ?_
      refine m_geta (t := 0) (k := 3004) rfl rfl ?_
      refine w_iload_n rfl rfl ?_
      refine w_aload_n rfl rfl ?_
      refine w_iload rfl rfl ?_
      refine w_aload_n rfl rfl ?_
      refine m_geta (t := 0) (k := 6000) rfl rfl ?_
      refine w_iload_n rfl rfl ?_
      refine m_ald rfl (f := 5) (k := 6000) rfl g10 ?_
      refine m_call (as := [vi (s.2 11 a1), vi (s19.2 5 a2)]) (r := [vi a1, vr 322]) rfl rfl rfl rfl rfl rfl (wc_mono H (Nat.le_refl _) ?_)
      rintro _ s21 ⟨r22, rfl, H⟩
      show wm iv L h0 (d + 1) 90 53 [lr 307, li a1, li a2, li a3, li (s.2 11 a1), li r20] [vi r22, vi a1, vr 322] s21 (qi F)
      refine w_if_eq rfl (fun h => ?_) (fun h => ?_)
      · replace H := H.1 h
        refine w_iconst (n := 4) rfl rfl ?_
        refine m_ast rfl (f := 21) (k := 3004) rfl g1 ?_
        refine w_aload_n rfl rfl ?_
        refine w_iconst (n := 3) rfl rfl ?_
        refine w_iload rfl rfl ?_
        refine w_iload rfl rfl ?_
        refine m_call (as := [vi 3, vi (s.2 11 a1), vi r20]) (r := []) rfl rfl rfl rfl rfl rfl (wc_mono H (Nat.le_refl _) ?_)
        rintro _ s23 ⟨r24, rfl, H⟩
        show wm iv L h0 (d + 1) 90 71 [lr 307, li a1, li a2, li a3, li (s.2 11 a1), li r20] [vi r24] s23 (qi F)
        exact w_iret rfl rfl ⟨_, rfl, H⟩
      · replace H := H.2 h
        refine w_iconst (n := 0) rfl rfl ?_
        refine w_goto rfl ?_
        refine m_ast rfl (f := 21) (k := 3004) rfl g1 ?_
        refine w_aload_n rfl rfl ?_
        refine w_iconst (n := 3) rfl rfl ?_
        refine w_iload rfl rfl ?_
        refine w_iload rfl rfl ?_
        refine m_call (as := [vi 3, vi (s.2 11 a1), vi r20]) (r := []) rfl rfl rfl rfl rfl rfl (wc_mono H (Nat.le_refl _) ?_)
        rintro _ s25 ⟨r26, rfl, H⟩
        show wm iv L h0 (d + 1) 90 71 [lr 307, li a1, li a2, li a3, li (s.2 11 a1), li r20] [vi r26] s25 (qi F)
        exact w_iret rfl rfl ⟨_, rfl, H⟩

/-- HoleDeskModel.makeUse(II)I -/
theorem B91 {iv : List (Int × Int)} {L : Nat} {h0 : MH} {d : Nat} {s : SM} {a1 : Int} {a2 : Int} {F : Int → SM → Prop} (H : cm iv L h0 d 88 [vr 307, vi a1, vi (-1)] s (qi fun r2 s1 => ((r2 = 0 → ((r2 = 0 → cm iv L h0 d 88 [vr 307, vi a2, vi 0] s1 (qi fun r4 s3 => F 0 s3)) ∧ (r2 ≠ 0 → (0 ≤ a1 ∧ a1 < 3004) ∧ ((s1.2 21 a1 ≠ 0 → cm iv L h0 d 88 [vr 307, vi a2, vi 0] s1 (qi fun r7 s6 => F 0 s6)) ∧ (s1.2 21 a1 = 0 → cm iv L h0 d 88 [vr 307, vi a2, vi 0] (ua s1 21 a1 2) (qi fun r9 s8 => F 0 s8)))))) ∧ (r2 ≠ 0 → (0 ≤ r2 ∧ r2 < 6000) ∧ ((s1.2 4 r2 ≠ 3 → ((r2 = 0 → cm iv L h0 d 88 [vr 307, vi a2, vi 0] s1 (qi fun r12 s11 => F 0 s11)) ∧ (r2 ≠ 0 → (0 ≤ a1 ∧ a1 < 3004) ∧ ((s1.2 21 a1 ≠ 0 → cm iv L h0 d 88 [vr 307, vi a2, vi 0] s1 (qi fun r15 s14 => F 0 s14)) ∧ (s1.2 21 a1 = 0 → cm iv L h0 d 88 [vr 307, vi a2, vi 0] (ua s1 21 a1 2) (qi fun r17 s16 => F 0 s16)))))) ∧ (s1.2 4 r2 = 3 → cm iv L h0 d 88 [vr 307, vi a2, vi (s1.2 5 r2)] s1 (qi fun r19 s18 => F (s18.2 6 r2) s18))))))) : cm iv L h0 (d + 1) 91 [vr 307, vi a1, vi a2] s (qi F) := by
  show wm iv L h0 (d + 1) 91 0 [lr 307, li a1, li a2] [] s (qi F)
  refine w_aload_n rfl rfl ?_
  refine w_iload_n rfl rfl ?_
  refine w_iconst (n := (-1)) rfl rfl ?_
  refine m_call (as := [vi a1, vi (-1)]) (r := []) rfl rfl rfl rfl rfl rfl (wc_mono H (Nat.le_refl _) ?_)
  rintro _ s1 ⟨r2, rfl, H⟩
  show wm iv L h0 (d + 1) 91 6 [lr 307, li a1, li a2] [vi r2] s1 (qi F)
  refine w_istore_n rfl rfl ?_
  refine w_iload_n rfl rfl ?_
  refine w_if_eq rfl (fun h => ?_) (fun h => ?_)
  · replace H := H.1 h
    refine w_iload_n rfl rfl ?_
    refine w_if_eq rfl (fun h => ?_) (fun h => ?_)
    · replace H := H.1 h
      refine w_aload_n rfl rfl ?_
      refine w_iload_n rfl rfl ?_
      refine w_iconst (n := 0) rfl rfl ?_
      refine m_call (as := [vi a2, vi 0]) (r := []) rfl rfl rfl rfl rfl rfl (wc_mono H (Nat.le_refl _) ?_)
      rintro _ s3 ⟨r4, rfl, H⟩
      show wm iv L h0 (d + 1) 91 67 [lr 307, li a1, li a2, li r2] [vi r4] s3 (qi F)
      refine w_istore rfl rfl ?_
      refine w_iconst (n := 0) rfl rfl ?_
      exact w_iret rfl rfl ⟨_, rfl, H⟩
    · replace H := H.2 h
      refine w_aload_n rfl rfl ?_
      refine m_geta (t := 0) (k := 3004) rfl rfl ?_
      refine w_iload_n rfl rfl ?_
      obtain ⟨g5, H⟩ := H
      refine m_ald rfl (f := 21) (k := 3004) rfl g5 ?_
      refine w_if_ne rfl (fun h => ?_) (fun h => ?_)
      · replace H := H.1 h
        refine w_aload_n rfl rfl ?_
        refine w_iload_n rfl rfl ?_
        refine w_iconst (n := 0) rfl rfl ?_
        refine m_call (as := [vi a2, vi 0]) (r := []) rfl rfl rfl rfl rfl rfl (wc_mono H (Nat.le_refl _) ?_)
        rintro _ s6 ⟨r7, rfl, H⟩
        show wm iv L h0 (d + 1) 91 67 [lr 307, li a1, li a2, li r2] [vi r7] s6 (qi F)
        refine w_istore rfl rfl ?_
        refine w_iconst (n := 0) rfl rfl ?_
        exact w_iret rfl rfl ⟨_, rfl, H⟩
      · replace H := H.2 h
        refine w_aload_n rfl rfl ?_
        refine m_geta (t := 0) (k := 3004) rfl rfl ?_
        refine w_iload_n rfl rfl ?_
        refine w_iconst (n := 2) rfl rfl ?_
        refine m_ast rfl (f := 21) (k := 3004) rfl g5 ?_
        refine w_aload_n rfl rfl ?_
        refine w_iload_n rfl rfl ?_
        refine w_iconst (n := 0) rfl rfl ?_
        refine m_call (as := [vi a2, vi 0]) (r := []) rfl rfl rfl rfl rfl rfl (wc_mono H (Nat.le_refl _) ?_)
        rintro _ s8 ⟨r9, rfl, H⟩
        show wm iv L h0 (d + 1) 91 67 [lr 307, li a1, li a2, li r2] [vi r9] s8 (qi F)
        refine w_istore rfl rfl ?_
        refine w_iconst (n := 0) rfl rfl ?_
        exact w_iret rfl rfl ⟨_, rfl, H⟩
  · replace H := H.2 h
    refine w_aload_n rfl rfl ?_
    refine m_geta (t := 0) (k := 6000) rfl rfl ?_
    refine w_iload_n rfl rfl ?_
    obtain ⟨g10, H⟩ := H
    refine m_ald rfl (f := 4) (k := 6000) rfl g10 ?_
    refine w_iconst (n := 3) rfl rfl ?_
    refine w_icmp_ne rfl (fun h => ?_) (fun h => ?_)
    · replace H := H.1 h
      refine w_iload_n rfl rfl ?_
      refine w_if_eq rfl (fun h => ?_) (fun h => ?_)
      · replace H := H.1 h
        refine w_aload_n rfl rfl ?_
        refine w_iload_n rfl rfl ?_
        refine w_iconst (n := 0) rfl rfl ?_
        refine m_call (as := [vi a2, vi 0]) (r := []) rfl rfl rfl rfl rfl rfl (wc_mono H (Nat.le_refl _) ?_)
        rintro _ s11 ⟨r12, rfl, H⟩
        show wm iv L h0 (d + 1) 91 67 [lr 307, li a1, li a2, li r2] [vi r12] s11 (qi F)
        refine w_istore rfl rfl ?_
        refine w_iconst (n := 0) rfl rfl ?_
        exact w_iret rfl rfl ⟨_, rfl, H⟩
      · replace H := H.2 h
        refine w_aload_n rfl rfl ?_
        refine m_geta (t := 0) (k := 3004) rfl rfl ?_
        refine w_iload_n rfl rfl ?_
        obtain ⟨g13, H⟩ := H
        refine m_ald rfl (f := 21) (k := 3004) rfl g13 ?_
        refine w_if_ne rfl (fun h => ?_) (fun h => ?_)
        · replace H := H.1 h
          refine w_aload_n rfl rfl ?_
          refine w_iload_n rfl rfl ?_
          refine w_iconst (n := 0) rfl rfl ?_
          refine m_call (as := [vi a2, vi 0]) (r := []) rfl rfl rfl rfl rfl rfl (wc_mono H (Nat.le_refl _) ?_)
          rintro _ s14 ⟨r15, rfl, H⟩
          show wm iv L h0 (d + 1) 91 67 [lr 307, li a1, li a2, li r2] [vi r15] s14 (qi F)
          refine w_istore rfl rfl ?_
          refine w_iconst (n := 0) rfl rfl ?_
          exact w_iret rfl rfl ⟨_, rfl, H⟩
        · replace H := H.2 h
          refine w_aload_n rfl rfl ?_
          refine m_geta (t := 0) (k := 3004) rfl rfl ?_
          refine w_iload_n rfl rfl ?_
          refine w_iconst (n := 2) rfl rfl ?_
          refine m_ast rfl (f := 21) (k := 3004) rfl g13 ?_
          refine w_aload_n rfl rfl ?_
          refine w_iload_n rfl rfl ?_
          refine w_iconst (n := 0) rfl rfl ?_
          refine m_call (as := [vi a2, vi 0]) (r := []) rfl rfl rfl rfl rfl rfl (wc_mono H (Nat.le_refl _) ?_)
          rintro _ s16 ⟨r17, rfl, H⟩
          show wm iv L h0 (d + 1) 91 67 [lr 307, li a1, li a2, li r2] [vi r17] s16 (qi F)
          refine w_istore rfl rfl ?_
          refine w_iconst (n := 0) rfl rfl ?_
          exact w_iret rfl rfl ⟨_, rfl, H⟩
    · replace H := H.2 h
      refine w_aload_n rfl rfl ?_
      refine w_iload_n rfl rfl ?_
      refine w_aload_n rfl rfl ?_
      refine m_geta (t := 0) (k := 6000) rfl rfl ?_
      refine w_iload_n rfl rfl ?_
      refine m_ald rfl (f := 5) (k := 6000) rfl g10 ?_
      refine m_call (as := [vi a2, vi (s1.2 5 r2)]) (r := []) rfl rfl rfl rfl rfl rfl (wc_mono H (Nat.le_refl _) ?_)
      rintro _ s18 ⟨r19, rfl, H⟩
      show wm iv L h0 (d + 1) 91 32 [lr 307, li a1, li a2, li r2] [vi r19] s18 (qi F)
      refine w_istore rfl rfl ?_
      refine w_aload_n rfl rfl ?_
      refine m_geta (t := 0) (k := 6000) rfl rfl ?_
      refine w_iload_n rfl rfl ?_
      refine m_ald rfl (f := 6) (k := 6000) rfl g10 ?_
      exact w_iret rfl rfl ⟨_, rfl, H⟩

/-- HoleDeskModel.makePick(IIIII)I -/
theorem B92 {iv : List (Int × Int)} {L : Nat} {h0 : MH} {d : Nat} {s : SM} {a1 : Int} {a2 : Int} {a3 : Int} {a4 : Int} {a5 : Int} {F : Int → SM → Prop} (H : cm iv L h0 d 88 [vr 307, vi a3, vi 2] s (qi fun r2 s1 => cm iv L h0 d 88 [vr 307, vi a4, vi a2] s1 (qi fun r4 s3 => cm iv L h0 d 88 [vr 307, vi a5, vi a2] s3 (qi fun r6 s5 => ((a2 = (-1) → cm iv L h0 d 70 [vr 307, vi r4, vi r6] s5 (qi fun r8 s7 => ((r8 = 0 → (0 ≤ a1 ∧ a1 < 3004) ∧ F 0 (ua s7 21 a1 5)) ∧ (r8 ≠ 0 → cm iv L h0 d 71 [vr 307, vi r4, vi r6] s7 (qi fun r11 s10 => F r11 s10))))) ∧ (a2 ≠ (-1) → F a2 s5)))))) : cm iv L h0 (d + 1) 92 [vr 307, vi a1, vi a2, vi a3, vi a4, vi a5] s (qi F) := by
  show wm iv L h0 (d + 1) 92 0 [lr 307, li a1, li a2, li a3, li a4, li a5] [] s (qi F)
  refine w_aload_n rfl rfl ?_
  refine w_iload_n rfl rfl ?_
  refine w_iconst (n := 2) rfl rfl ?_
  refine m_call (as := [vi a3, vi 2]) (r := []) rfl rfl rfl rfl rfl rfl (wc_mono H (Nat.le_refl _) ?_)
  rintro _ s1 ⟨r2, rfl, H⟩
  show wm iv L h0 (d + 1) 92 6 [lr 307, li a1, li a2, li a3, li a4, li a5] [vi r2] s1 (qi F)
  refine w_istore rfl rfl ?_
  refine w_aload_n rfl rfl ?_
  refine w_iload rfl rfl ?_
  refine w_iload_n rfl rfl ?_
  refine m_call (as := [vi a4, vi a2]) (r := []) rfl rfl rfl rfl rfl rfl (wc_mono H (Nat.le_refl _) ?_)
  rintro _ s3 ⟨r4, rfl, H⟩
  show wm iv L h0 (d + 1) 92 15 [lr 307, li a1, li a2, li a3, li a4, li a5, li r2] [vi r4] s3 (qi F)
  refine w_istore rfl rfl ?_
  refine w_aload_n rfl rfl ?_
  refine w_iload rfl rfl ?_
  refine w_iload_n rfl rfl ?_
  refine m_call (as := [vi a5, vi a2]) (r := []) rfl rfl rfl rfl rfl rfl (wc_mono H (Nat.le_refl _) ?_)
  rintro _ s5 ⟨r6, rfl, H⟩
  show wm iv L h0 (d + 1) 92 24 [lr 307, li a1, li a2, li a3, li a4, li a5, li r2, li r4] [vi r6] s5 (qi F)
  refine w_istore rfl rfl ?_
  refine w_iload_n rfl rfl ?_
  refine w_iconst (n := (-1)) rfl rfl ?_
  refine w_icmp_eq rfl (fun h => ?_) (fun h => ?_)
  · replace H := H.1 h
    refine w_aload_n rfl rfl ?_
    refine w_iload rfl rfl ?_
    refine w_iload rfl rfl ?_
    refine m_call (as := [vi r4, vi r6]) (r := []) rfl rfl rfl rfl rfl rfl (wc_mono H (Nat.le_refl _) ?_)
    rintro _ s7 ⟨r8, rfl, H⟩
    show wm iv L h0 (d + 1) 92 41 [lr 307, li a1, li a2, li a3, li a4, li a5, li r2, li r4, li r6] [vi r8] s7 (qi F)
    refine w_if_eq rfl (fun h => ?_) (fun h => ?_)
    · replace H := H.1 h
      refine w_aload_n rfl rfl ?_
      refine m_geta (t := 0) (k := 3004) rfl rfl ?_
      refine w_iload_n rfl rfl ?_
      refine w_iconst (n := 5) rfl rfl ?_
      obtain ⟨g9, H⟩ := H
      refine m_ast rfl (f := 21) (k := 3004) rfl g9 ?_
      refine w_iconst (n := 0) rfl rfl ?_
      exact w_iret rfl rfl ⟨_, rfl, H⟩
    · replace H := H.2 h
      refine w_aload_n rfl rfl ?_
      refine w_iload rfl rfl ?_
      refine w_iload rfl rfl ?_
      refine m_call (as := [vi r4, vi r6]) (r := []) rfl rfl rfl rfl rfl rfl (wc_mono H (Nat.le_refl _) ?_)
      rintro _ s10 ⟨r11, rfl, H⟩
      show wm iv L h0 (d + 1) 92 52 [lr 307, li a1, li a2, li a3, li a4, li a5, li r2, li r4, li r6] [vi r11] s10 (qi F)
      exact w_iret rfl rfl ⟨_, rfl, H⟩
  · replace H := H.2 h
    refine w_iload_n rfl rfl ?_
    exact w_iret rfl rfl ⟨_, rfl, H⟩
