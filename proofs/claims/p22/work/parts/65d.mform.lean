/-! What the methods of the reference come to. Printed by wip/gen2/gens.py. -/
/-- HoleDeskModel.offers()I -/
theorem B119 {iv : List (Int × Int)} {L : Nat} {h0 : MH} {d : Nat} {s : SM} {F : Int → SM → Prop} (H : (0 ≤ s.1 16 ∧ s.1 16 < 3004) ∧ ((s.2 9 (s.1 16) = 0 → cm iv L h0 d 118 [vr 307] s (qv fun s2 => F (s2.1 45) s2)) ∧ (s.2 9 (s.1 16) ≠ 0 → F (-4) s))) : cm iv L h0 (d + 1) 119 [vr 307] s (qi F) := by
  show wm iv L h0 (d + 1) 119 0 [lr 307] [] s (qi F)
  refine w_aload_n rfl rfl ?_
  refine m_geta (t := 0) (k := 3004) rfl rfl ?_
  refine w_aload_n rfl rfl ?_
  refine m_get rfl rfl ?_
  obtain ⟨g1, H⟩ := H
  refine m_ald rfl (f := 9) (k := 3004) rfl g1 ?_
  refine w_if_eq rfl (fun h => ?_) (fun h => ?_)
  · replace H := H.1 h
    refine w_aload_n rfl rfl ?_
    refine m_call (as := []) (r := []) rfl rfl rfl rfl rfl rfl (wc_mono H (Nat.le_refl _) ?_)
    rintro _ s2 ⟨rfl, H⟩
    show wm iv L h0 (d + 1) 119 19 [lr 307] [] s2 (qi F)
    refine w_aload_n rfl rfl ?_
    refine m_get rfl rfl ?_
    exact w_iret rfl rfl ⟨_, rfl, H⟩
  · replace H := H.2 h
    refine w_bipush (n := (-4)) rfl rfl rfl ?_
    exact w_iret rfl rfl ⟨_, rfl, H⟩

/-- HoleDeskModel.offer(II)I -/
theorem B120 {iv : List (Int × Int)} {L : Nat} {h0 : MH} {d : Nat} {s : SM} {a1 : Int} {a2 : Int} {F : Int → SM → Prop} (H : ((0 ≤ a2 ∧ a2 ≤ 1 → (0 ≤ s.1 16 ∧ s.1 16 < 3004) ∧ ((s.2 9 (s.1 16) = 0 → cm iv L h0 d 118 [vr 307] s (qv fun s2 => (-2147483648 ≤ (s2.1 45) - 1 ∧ (s2.1 45) - 1 ≤ 2147483647) ∧ ((0 ≤ a1 ∧ a1 ≤ (s2.1 45) - 1 → ((a2 ≠ 0 → (0 ≤ a1 ∧ a1 < 64) ∧ F (s2.2 44 a1) s2) ∧ (a2 = 0 → (0 ≤ a1 ∧ a1 < 64) ∧ F (s2.2 43 a1) s2))) ∧ (a1 < 0 ∨ (s2.1 45) - 1 < a1 → F (-9) s2)))) ∧ (s.2 9 (s.1 16) ≠ 0 → F (-4) s))) ∧ (a2 < 0 ∨ 1 < a2 → F (-1) s))) : cm iv L h0 (d + 1) 120 [vr 307, vi a1, vi a2] s (qi F) := by
  show wm iv L h0 (d + 1) 120 0 [lr 307, li a1, li a2] [] s (qi F)
  refine w_iload_n rfl rfl ?_
  refine w_iconst (n := 0) rfl rfl ?_
  refine w_iconst (n := 1) rfl rfl ?_
  refine w_static (as := [vi a2, vi 0, vi 1]) (r := []) rfl rfl rfl rfl rfl (m_in (fun h => ?_) (fun h => ?_))
  · show wm iv L h0 (d + 1) 120 6 [lr 307, li a1, li a2] [vi 1] s (qi F)
    replace H := H.1 h
    refine w_if_ne rfl (fun _ => ?_) (fun h => absurd h (by decide))
    refine w_aload_n rfl rfl ?_
    refine m_geta (t := 0) (k := 3004) rfl rfl ?_
    refine w_aload_n rfl rfl ?_
    refine m_get rfl rfl ?_
    obtain ⟨g1, H⟩ := H
    refine m_ald rfl (f := 9) (k := 3004) rfl g1 ?_
    refine w_if_eq rfl (fun h => ?_) (fun h => ?_)
    · replace H := H.1 h
      refine w_aload_n rfl rfl ?_
      refine m_call (as := []) (r := []) rfl rfl rfl rfl rfl rfl (wc_mono H (Nat.le_refl _) ?_)
      rintro _ s2 ⟨rfl, H⟩
      show wm iv L h0 (d + 1) 120 30 [lr 307, li a1, li a2] [] s2 (qi F)
      refine w_iload_n rfl rfl ?_
      refine w_iconst (n := 0) rfl rfl ?_
      refine w_aload_n rfl rfl ?_
      refine m_get rfl rfl ?_
      refine w_iconst (n := 1) rfl rfl ?_
      obtain ⟨g3, H⟩ := H
      refine w_isub rfl g3 ?_
      refine w_static (as := [vi a1, vi 0, vi ((s2.1 45) - 1)]) (r := []) rfl rfl rfl rfl rfl (m_in (fun h => ?_) (fun h => ?_))
      · show wm iv L h0 (d + 1) 120 41 [lr 307, li a1, li a2] [vi 1] s2 (qi F)
        replace H := H.1 h
        refine w_if_ne rfl (fun _ => ?_) (fun h => absurd h (by decide))
        refine w_iload_n rfl rfl ?_
        refine w_if_ne rfl (fun h => ?_) (fun h => ?_)
        · replace H := H.1 h
          refine w_aload_n rfl rfl ?_
          refine m_geta (t := 0) (k := 64) rfl rfl ?_
          refine w_iload_n rfl rfl ?_
          obtain ⟨g4, H⟩ := H
          refine m_ald rfl (f := 44) (k := 64) rfl g4 ?_
          exact w_iret rfl rfl ⟨_, rfl, H⟩
        · replace H := H.2 h
          refine w_aload_n rfl rfl ?_
          refine m_geta (t := 0) (k := 64) rfl rfl ?_
          refine w_iload_n rfl rfl ?_
          obtain ⟨g5, H⟩ := H
          refine m_ald rfl (f := 43) (k := 64) rfl g5 ?_
          refine w_goto rfl ?_
          exact w_iret rfl rfl ⟨_, rfl, H⟩
      · show wm iv L h0 (d + 1) 120 41 [lr 307, li a1, li a2] [vi 0] s2 (qi F)
        replace H := H.2 h
        refine w_if_ne rfl (fun h => absurd h (by decide)) (fun _ => ?_)
        refine w_bipush (n := (-9)) rfl rfl rfl ?_
        refine w_goto rfl ?_
        exact w_iret rfl rfl ⟨_, rfl, H⟩
    · replace H := H.2 h
      refine w_bipush (n := (-4)) rfl rfl rfl ?_
      exact w_iret rfl rfl ⟨_, rfl, H⟩
  · show wm iv L h0 (d + 1) 120 6 [lr 307, li a1, li a2] [vi 0] s (qi F)
    replace H := H.2 h
    refine w_if_ne rfl (fun h => absurd h (by decide)) (fun _ => ?_)
    refine w_iconst (n := (-1)) rfl rfl ?_
    exact w_iret rfl rfl ⟨_, rfl, H⟩

/-- HoleDeskModel.value(IIIII)I -/
theorem B121 {iv : List (Int × Int)} {L : Nat} {h0 : MH} {d : Nat} {s : SM} {a1 : Int} {a2 : Int} {a3 : Int} {a4 : Int} {a5 : Int} {F : Int → SM → Prop} (H : (-2147483648 ≤ (s.1 52) + 1 ∧ (s.1 52) + 1 ≤ 2147483647) ∧ (0 ≤ s.1 52 ∧ s.1 52 < 2600) ∧ ((4 ≤ a1 → F (s.1 52) (ua (ua (ua (ua (ua (ua (us s 52 ((s.1 52) + 1)) 46 (s.1 52) a1) 47 (s.1 52) a2) 48 (s.1 52) a3) 49 (s.1 52) a4) 50 (s.1 52) a5) 51 (s.1 52) 1)) ∧ (a1 < 4 → ((a1 ≠ 3 → F (s.1 52) (ua (ua (ua (ua (ua (ua (us s 52 ((s.1 52) + 1)) 46 (s.1 52) a1) 47 (s.1 52) a2) 48 (s.1 52) a3) 49 (s.1 52) a4) 50 (s.1 52) a5) 51 (s.1 52) 0)) ∧ (a1 = 3 → ((a3 = (-9) → F (s.1 52) (ua (ua (ua (ua (ua (ua (us s 52 ((s.1 52) + 1)) 46 (s.1 52) a1) 47 (s.1 52) a2) 48 (s.1 52) a3) 49 (s.1 52) a4) 50 (s.1 52) a5) 51 (s.1 52) 0)) ∧ (a3 ≠ (-9) → ((a4 = (-9) → F (s.1 52) (ua (ua (ua (ua (ua (ua (us s 52 ((s.1 52) + 1)) 46 (s.1 52) a1) 47 (s.1 52) a2) 48 (s.1 52) a3) 49 (s.1 52) a4) 50 (s.1 52) a5) 51 (s.1 52) 0)) ∧ (a4 ≠ (-9) → (0 ≤ a3 ∧ a3 < 2600) ∧ ((s.2 51 a3 ≠ 0 → F (s.1 52) (ua (ua (ua (ua (ua (ua (us s 52 ((s.1 52) + 1)) 46 (s.1 52) a1) 47 (s.1 52) a2) 48 (s.1 52) a3) 49 (s.1 52) a4) 50 (s.1 52) a5) 51 (s.1 52) 1)) ∧ (s.2 51 a3 = 0 → (0 ≤ a4 ∧ a4 < 2600) ∧ ((s.2 51 a4 = 0 → F (s.1 52) (ua (ua (ua (ua (ua (ua (us s 52 ((s.1 52) + 1)) 46 (s.1 52) a1) 47 (s.1 52) a2) 48 (s.1 52) a3) 49 (s.1 52) a4) 50 (s.1 52) a5) 51 (s.1 52) 0)) ∧ (s.2 51 a4 ≠ 0 → F (s.1 52) (ua (ua (ua (ua (ua (ua (us s 52 ((s.1 52) + 1)) 46 (s.1 52) a1) 47 (s.1 52) a2) 48 (s.1 52) a3) 49 (s.1 52) a4) 50 (s.1 52) a5) 51 (s.1 52) 1)))))))))))))) : cm iv L h0 d 121 [vr 307, vi a1, vi a2, vi a3, vi a4, vi a5] s (qi F) := by
  show wm iv L h0 d 121 0 [lr 307, li a1, li a2, li a3, li a4, li a5] [] s (qi F)
  refine w_aload_n rfl rfl ?_
  refine m_get rfl rfl ?_
  refine w_istore rfl rfl ?_
  refine w_aload_n rfl rfl ?_
  refine w_dup rfl rfl ?_
  refine m_get rfl rfl ?_
  refine w_iconst (n := 1) rfl rfl ?_
  obtain ⟨g1, H⟩ := H
  refine w_iadd rfl g1 ?_
  refine m_put rfl rfl rfl ?_
  refine w_aload_n rfl rfl ?_
  refine m_geta (t := 0) (k := 2600) rfl rfl ?_
  refine w_iload rfl rfl ?_
  refine w_iload_n rfl rfl ?_
  obtain ⟨g2, H⟩ := H
  refine m_ast rfl (f := 46) (k := 2600) rfl g2 ?_
  refine w_aload_n rfl rfl ?_
  refine m_geta (t := 0) (k := 2600) rfl rfl ?_
  refine w_iload rfl rfl ?_
  refine w_iload_n rfl rfl ?_
  refine m_ast rfl (f := 47) (k := 2600) rfl g2 ?_
  refine w_aload_n rfl rfl ?_
  refine m_geta (t := 0) (k := 2600) rfl rfl ?_
  refine w_iload rfl rfl ?_
  refine w_iload_n rfl rfl ?_
  refine m_ast rfl (f := 48) (k := 2600) rfl g2 ?_
  refine w_aload_n rfl rfl ?_
  refine m_geta (t := 0) (k := 2600) rfl rfl ?_
  refine w_iload rfl rfl ?_
  refine w_iload rfl rfl ?_
  refine m_ast rfl (f := 49) (k := 2600) rfl g2 ?_
  refine w_aload_n rfl rfl ?_
  refine m_geta (t := 0) (k := 2600) rfl rfl ?_
  refine w_iload rfl rfl ?_
  refine w_iload rfl rfl ?_
  refine m_ast rfl (f := 50) (k := 2600) rfl g2 ?_
  refine w_aload_n rfl rfl ?_
  refine m_geta (t := 2) (k := 2600) rfl rfl ?_
  refine w_iload rfl rfl ?_
  refine w_iload_n rfl rfl ?_
  refine w_iconst (n := 4) rfl rfl ?_
  refine w_icmp_ge rfl (fun h => ?_) (fun h => ?_)
  · replace H := H.1 h
    refine w_iconst (n := 1) rfl rfl ?_
    refine w_goto rfl ?_
    refine m_bast (t := 2) rfl (f := 51) (k := 2600) rfl g2 (Or.inr ⟨rfl, by decide⟩) ?_
    refine w_iload rfl rfl ?_
    exact w_iret rfl rfl ⟨_, rfl, H⟩
  · replace H := H.2 h
    refine w_iload_n rfl rfl ?_
    refine w_iconst (n := 3) rfl rfl ?_
    refine w_icmp_ne rfl (fun h => ?_) (fun h => ?_)
    · replace H := H.1 h
      refine w_iconst (n := 0) rfl rfl ?_
      refine m_bast (t := 2) rfl (f := 51) (k := 2600) rfl g2 (Or.inr ⟨rfl, by decide⟩) ?_
      refine w_iload rfl rfl ?_
      exact w_iret rfl rfl ⟨_, rfl, H⟩
    · replace H := H.2 h
      refine w_iload_n rfl rfl ?_
      refine w_bipush (n := (-9)) rfl rfl rfl ?_
      refine w_icmp_eq rfl (fun h => ?_) (fun h => ?_)
      · replace H := H.1 h
        refine w_iconst (n := 0) rfl rfl ?_
        refine m_bast (t := 2) rfl (f := 51) (k := 2600) rfl g2 (Or.inr ⟨rfl, by decide⟩) ?_
        refine w_iload rfl rfl ?_
        exact w_iret rfl rfl ⟨_, rfl, H⟩
      · replace H := H.2 h
        refine w_iload rfl rfl ?_
        refine w_bipush (n := (-9)) rfl rfl rfl ?_
        refine w_icmp_eq rfl (fun h => ?_) (fun h => ?_)
        · replace H := H.1 h
          refine w_iconst (n := 0) rfl rfl ?_
          refine m_bast (t := 2) rfl (f := 51) (k := 2600) rfl g2 (Or.inr ⟨rfl, by decide⟩) ?_
          refine w_iload rfl rfl ?_
          exact w_iret rfl rfl ⟨_, rfl, H⟩
        · replace H := H.2 h
          refine w_aload_n rfl rfl ?_
          refine m_geta (t := 2) (k := 2600) rfl rfl ?_
          refine w_iload_n rfl rfl ?_
          obtain ⟨g3, H⟩ := H
          refine m_bald (t := 2) rfl (f := 51) (k := 2600) rfl g3 ?_
          show wm iv L h0 d 121 93 [lr 307, li a1, li a2, li a3, li a4, li a5, li (s.1 52)] [vi (s.2 51 a3), vi (s.1 52), vr 345] (ua (ua (ua (ua (ua (us s 52 ((s.1 52) + 1)) 46 (s.1 52) a1) 47 (s.1 52) a2) 48 (s.1 52) a3) 49 (s.1 52) a4) 50 (s.1 52) a5) (qi F)
          refine w_if_ne rfl (fun h => ?_) (fun h => ?_)
          · replace H := H.1 h
            refine w_iconst (n := 1) rfl rfl ?_
            refine w_goto rfl ?_
            refine m_bast (t := 2) rfl (f := 51) (k := 2600) rfl g2 (Or.inr ⟨rfl, by decide⟩) ?_
            refine w_iload rfl rfl ?_
            exact w_iret rfl rfl ⟨_, rfl, H⟩
          · replace H := H.2 h
            refine w_aload_n rfl rfl ?_
            refine m_geta (t := 2) (k := 2600) rfl rfl ?_
            refine w_iload rfl rfl ?_
            obtain ⟨g4, H⟩ := H
            refine m_bald (t := 2) rfl (f := 51) (k := 2600) rfl g4 ?_
            show wm iv L h0 d 121 103 [lr 307, li a1, li a2, li a3, li a4, li a5, li (s.1 52)] [vi (s.2 51 a4), vi (s.1 52), vr 345] (ua (ua (ua (ua (ua (us s 52 ((s.1 52) + 1)) 46 (s.1 52) a1) 47 (s.1 52) a2) 48 (s.1 52) a3) 49 (s.1 52) a4) 50 (s.1 52) a5) (qi F)
            refine w_if_eq rfl (fun h => ?_) (fun h => ?_)
            · replace H := H.1 h
              refine w_iconst (n := 0) rfl rfl ?_
              refine m_bast (t := 2) rfl (f := 51) (k := 2600) rfl g2 (Or.inr ⟨rfl, by decide⟩) ?_
              refine w_iload rfl rfl ?_
              exact w_iret rfl rfl ⟨_, rfl, H⟩
            · replace H := H.2 h
              refine w_iconst (n := 1) rfl rfl ?_
              refine w_goto rfl ?_
              refine m_bast (t := 2) rfl (f := 51) (k := 2600) rfl g2 (Or.inr ⟨rfl, by decide⟩) ?_
              refine w_iload rfl rfl ?_
              exact w_iret rfl rfl ⟨_, rfl, H⟩

/-- HoleDeskModel.newEnv(I)I -/
theorem B122 {iv : List (Int × Int)} {L : Nat} {h0 : MH} {d : Nat} {s : SM} {a1 : Int} {F : Int → SM → Prop} (H : (-2147483648 ≤ (s.1 54) + 1 ∧ (s.1 54) + 1 ≤ 2147483647) ∧ wm iv L h0 d 122 17 [lr 307, li a1, li (s.1 54), li 0] [] (us s 54 ((s.1 54) + 1)) (qi F)) : cm iv L h0 d 122 [vr 307, vi a1] s (qi F) := by
  show wm iv L h0 d 122 0 [lr 307, li a1] [] s (qi F)
  refine w_aload_n rfl rfl ?_
  refine m_get rfl rfl ?_
  refine w_istore_n rfl rfl ?_
  refine w_aload_n rfl rfl ?_
  refine w_dup rfl rfl ?_
  refine m_get rfl rfl ?_
  refine w_iconst (n := 1) rfl rfl ?_
  obtain ⟨g1, H⟩ := H
  refine w_iadd rfl g1 ?_
  refine m_put rfl rfl rfl ?_
  refine w_iconst (n := 0) rfl rfl ?_
  refine w_istore_n rfl rfl ?_
  exact wp_ls (sl_s (sl_s (sl_s (sl_s (sl_0))))) H

/-- HoleDeskModel.newEnv(I)I at 17 -/
theorem B122_17 {iv : List (Int × Int)} {L : Nat} {h0 : MH} {d : Nat} {s : SM} {l1 : Int} {l2 : Int} {l3 : Int} {F : Int → SM → Prop} (H : ((26 ≤ l3 → F l2 s) ∧ (l3 < 26 → (-2147483648 ≤ 26 * l2 ∧ 26 * l2 ≤ 2147483647) ∧ (-2147483648 ≤ (26 * l2) + l3 ∧ (26 * l2) + l3 ≤ 2147483647) ∧ ((l1 ≠ (-9) → (-2147483648 ≤ 26 * l1 ∧ 26 * l1 ≤ 2147483647) ∧ (-2147483648 ≤ (26 * l1) + l3 ∧ (26 * l1) + l3 ≤ 2147483647) ∧ (0 ≤ (26 * l1) + l3 ∧ (26 * l1) + l3 < 33280) ∧ (0 ≤ (26 * l2) + l3 ∧ (26 * l2) + l3 < 33280) ∧ (-2147483648 ≤ l3 + 1 ∧ l3 + 1 ≤ 2147483647) ∧ wm iv L h0 d 122 17 [lr 307, li l1, li l2, li (l3 + 1)] [] (ua s 53 ((26 * l2) + l3) (s.2 53 ((26 * l1) + l3))) (qi F)) ∧ (l1 = (-9) → (0 ≤ (26 * l2) + l3 ∧ (26 * l2) + l3 < 33280) ∧ (-2147483648 ≤ l3 + 1 ∧ l3 + 1 ≤ 2147483647) ∧ wm iv L h0 d 122 17 [lr 307, li l1, li l2, li (l3 + 1)] [] (ua s 53 ((26 * l2) + l3) (-9)) (qi F)))))) : wm iv L h0 d 122 17 [lr 307, li l1, li l2, li l3] [] s (qi F) := by
  refine w_iload_n rfl rfl ?_
  refine w_bipush (n := 26) rfl rfl rfl ?_
  refine w_icmp_ge rfl (fun h => ?_) (fun h => ?_)
  · replace H := H.1 h
    refine w_iload_n rfl rfl ?_
    exact w_iret rfl rfl ⟨_, rfl, H⟩
  · replace H := H.2 h
    refine w_aload_n rfl rfl ?_
    refine m_geta (t := 0) (k := 33280) rfl rfl ?_
    refine w_bipush (n := 26) rfl rfl rfl ?_
    refine w_iload_n rfl rfl ?_
    obtain ⟨g1, H⟩ := H
    refine w_imul rfl g1 ?_
    refine w_iload_n rfl rfl ?_
    obtain ⟨g2, H⟩ := H
    refine w_iadd rfl g2 ?_
    refine w_iload_n rfl rfl ?_
    refine w_bipush (n := (-9)) rfl rfl rfl ?_
    refine w_icmp_ne rfl (fun h => ?_) (fun h => ?_)
    · replace H := H.1 h
      refine w_aload_n rfl rfl ?_
      refine m_geta (t := 0) (k := 33280) rfl rfl ?_
      refine w_bipush (n := 26) rfl rfl rfl ?_
      refine w_iload_n rfl rfl ?_
      obtain ⟨g3, H⟩ := H
      refine w_imul rfl g3 ?_
      refine w_iload_n rfl rfl ?_
      obtain ⟨g4, H⟩ := H
      refine w_iadd rfl g4 ?_
      obtain ⟨g5, H⟩ := H
      refine m_ald rfl (f := 53) (k := 33280) rfl g5 ?_
      obtain ⟨g6, H⟩ := H
      refine m_ast rfl (f := 53) (k := 33280) rfl g6 ?_
      obtain ⟨g7, H⟩ := H
      refine w_iinc rfl rfl rfl g7 ?_
      refine w_goto rfl ?_
      exact wp_ls (sl_s (sl_s (sl_s (sl_s (sl_0))))) H
    · replace H := H.2 h
      refine w_bipush (n := (-9)) rfl rfl rfl ?_
      refine w_goto rfl ?_
      obtain ⟨g8, H⟩ := H
      refine m_ast rfl (f := 53) (k := 33280) rfl g8 ?_
      obtain ⟨g9, H⟩ := H
      refine w_iinc rfl rfl rfl g9 ?_
      refine w_goto rfl ?_
      exact wp_ls (sl_s (sl_s (sl_s (sl_s (sl_0))))) H

/-- HoleDeskModel.begins(I)Z -/
theorem B123 {iv : List (Int × Int)} {L : Nat} {h0 : MH} {d : Nat} {s : SM} {a1 : Int} {F : Int → SM → Prop} (H : ((s.1 56 = s.1 57 → F 0 (us (us s 59 4) 60 a1)) ∧ (s.1 56 ≠ s.1 57 → ((s.1 58 ≠ 60 → (-2147483648 ≤ (s.1 56) + 1 ∧ (s.1 56) + 1 ≤ 2147483647) ∧ (-2147483648 ≤ (s.1 58) + 1 ∧ (s.1 58) + 1 ≤ 2147483647) ∧ F 1 (us (us s 56 ((s.1 56) + 1)) 58 ((s.1 58) + 1))) ∧ (s.1 58 = 60 → F 0 (us (us s 59 4) 60 a1)))))) : cm iv L h0 d 123 [vr 307, vi a1] s (qi F) := by
  show wm iv L h0 d 123 0 [lr 307, li a1] [] s (qi F)
  refine w_aload_n rfl rfl ?_
  refine m_get rfl rfl ?_
  refine w_aload_n rfl rfl ?_
  refine m_get rfl rfl ?_
  refine w_icmp_eq rfl (fun h => ?_) (fun h => ?_)
  · replace H := H.1 h
    refine w_aload_n rfl rfl ?_
    refine w_iconst (n := 4) rfl rfl ?_
    refine m_put rfl rfl rfl ?_
    refine w_aload_n rfl rfl ?_
    refine w_iload_n rfl rfl ?_
    refine m_put rfl rfl rfl ?_
    refine w_iconst (n := 0) rfl rfl ?_
    exact w_iretz rfl rfl (by decide) ⟨_, rfl, H⟩
  · replace H := H.2 h
    refine w_aload_n rfl rfl ?_
    refine m_get rfl rfl ?_
    refine w_bipush (n := 60) rfl rfl rfl ?_
    refine w_icmp_ne rfl (fun h => ?_) (fun h => ?_)
    · replace H := H.1 h
      refine w_aload_n rfl rfl ?_
      refine w_dup rfl rfl ?_
      refine m_get rfl rfl ?_
      refine w_iconst (n := 1) rfl rfl ?_
      obtain ⟨g1, H⟩ := H
      refine w_iadd rfl g1 ?_
      refine m_put rfl rfl rfl ?_
      refine w_aload_n rfl rfl ?_
      refine w_dup rfl rfl ?_
      refine m_get rfl rfl ?_
      show wm iv L h0 d 123 47 [lr 307, li a1] [vi (s.1 58), vr 307] (us s 56 ((s.1 56) + 1)) (qi F)
      refine w_iconst (n := 1) rfl rfl ?_
      obtain ⟨g2, H⟩ := H
      refine w_iadd rfl g2 ?_
      refine m_put rfl rfl rfl ?_
      refine w_iconst (n := 1) rfl rfl ?_
      exact w_iretz rfl rfl (by decide) ⟨_, rfl, H⟩
    · replace H := H.2 h
      refine w_aload_n rfl rfl ?_
      refine w_iconst (n := 4) rfl rfl ?_
      refine m_put rfl rfl rfl ?_
      refine w_aload_n rfl rfl ?_
      refine w_iload_n rfl rfl ?_
      refine m_put rfl rfl rfl ?_
      refine w_iconst (n := 0) rfl rfl ?_
      exact w_iretz rfl rfl (by decide) ⟨_, rfl, H⟩

/-- HoleDeskModel.stopped(II)I -/
theorem B124 {iv : List (Int × Int)} {L : Nat} {h0 : MH} {d : Nat} {s : SM} {a1 : Int} {a2 : Int} {F : Int → SM → Prop} (H : F (-9) (us (us s 59 a1) 60 a2)) : cm iv L h0 d 124 [vr 307, vi a1, vi a2] s (qi F) := by
  show wm iv L h0 d 124 0 [lr 307, li a1, li a2] [] s (qi F)
  refine w_aload_n rfl rfl ?_
  refine w_iload_n rfl rfl ?_
  refine m_put rfl rfl rfl ?_
  refine w_aload_n rfl rfl ?_
  refine w_iload_n rfl rfl ?_
  refine m_put rfl rfl rfl ?_
  refine w_bipush (n := (-9)) rfl rfl rfl ?_
  exact w_iret rfl rfl ⟨_, rfl, H⟩

/-- HoleDeskModel.isLeft(I)Z -/
theorem B125 {iv : List (Int × Int)} {L : Nat} {h0 : MH} {d : Nat} {s : SM} {a1 : Int} {F : Int → SM → Prop} (H : (0 ≤ a1 ∧ a1 < 2600) ∧ ((s.2 46 a1 < 4 → F 0 s) ∧ (4 ≤ s.2 46 a1 → F 1 s))) : cm iv L h0 d 125 [vr 307, vi a1] s (qi F) := by
  show wm iv L h0 d 125 0 [lr 307, li a1] [] s (qi F)
  refine w_aload_n rfl rfl ?_
  refine m_geta (t := 0) (k := 2600) rfl rfl ?_
  refine w_iload_n rfl rfl ?_
  obtain ⟨g1, H⟩ := H
  refine m_ald rfl (f := 46) (k := 2600) rfl g1 ?_
  refine w_iconst (n := 4) rfl rfl ?_
  refine w_icmp_lt rfl (fun h => ?_) (fun h => ?_)
  · replace H := H.1 h
    refine w_iconst (n := 0) rfl rfl ?_
    exact w_iretz rfl rfl (by decide) ⟨_, rfl, H⟩
  · replace H := H.2 h
    refine w_iconst (n := 1) rfl rfl ?_
    refine w_goto rfl ?_
    exact w_iretz rfl rfl (by decide) ⟨_, rfl, H⟩

/-- HoleDeskModel.work(II)I -/
theorem B126 {iv : List (Int × Int)} {L : Nat} {h0 : MH} {d : Nat} {s : SM} {a1 : Int} {a2 : Int} {F : Int → SM → Prop} (H : cm iv L h0 d 123 [vr 307, vi a1] s (qi fun r2 s1 => ((r2 ≠ 0 → cm iv L h0 d 127 [vr 307, vi a1, vi a2] s1 (qi fun r4 s3 => (-2147483648 ≤ (s3.1 58) - 1 ∧ (s3.1 58) - 1 ≤ 2147483647) ∧ ((s3.1 59 ≤ 0 → (0 ≤ a1 ∧ a1 < 3004) ∧ ((s3.2 21 a1 ≤ 1 → F r4 (us s3 58 ((s3.1 58) - 1))) ∧ (1 < s3.2 21 a1 → cm iv L h0 d 121 [vr 307, vi 6, vi (-9), vi r4, vi (-9), vi (-9)] (us s3 58 ((s3.1 58) - 1)) (qi fun r8 s7 => F r8 s7)))) ∧ (0 < s3.1 59 → F (-9) (us s3 58 ((s3.1 58) - 1)))))) ∧ (r2 = 0 → F (-9) s1)))) : cm iv L h0 (d + 1) 126 [vr 307, vi a1, vi a2] s (qi F) := by
  show wm iv L h0 (d + 1) 126 0 [lr 307, li a1, li a2] [] s (qi F)
  refine w_aload_n rfl rfl ?_
  refine w_iload_n rfl rfl ?_
  refine m_call (as := [vi a1]) (r := []) rfl rfl rfl rfl rfl rfl (wc_mono H (Nat.le_refl _) ?_)
  rintro _ s1 ⟨r2, rfl, H⟩
  show wm iv L h0 (d + 1) 126 5 [lr 307, li a1, li a2] [vi r2] s1 (qi F)
  refine w_if_ne rfl (fun h => ?_) (fun h => ?_)
  · replace H := H.1 h
    refine w_aload_n rfl rfl ?_
    refine w_iload_n rfl rfl ?_
    refine w_iload_n rfl rfl ?_
    refine m_call (as := [vi a1, vi a2]) (r := []) rfl rfl rfl rfl rfl rfl (wc_mono H (Nat.le_refl _) ?_)
    rintro _ s3 ⟨r4, rfl, H⟩
    show wm iv L h0 (d + 1) 126 17 [lr 307, li a1, li a2] [vi r4] s3 (qi F)
    refine w_istore_n rfl rfl ?_
    refine w_aload_n rfl rfl ?_
    refine w_dup rfl rfl ?_
    refine m_get rfl rfl ?_
    refine w_iconst (n := 1) rfl rfl ?_
    obtain ⟨g5, H⟩ := H
    refine w_isub rfl g5 ?_
    refine m_put rfl rfl rfl ?_
    refine w_aload_n rfl rfl ?_
    refine m_get rfl rfl ?_
    show wm iv L h0 (d + 1) 126 32 [lr 307, li a1, li a2, li r4] [vi (s3.1 59)] (us s3 58 ((s3.1 58) - 1)) (qi F)
    refine w_if_le rfl (fun h => ?_) (fun h => ?_)
    · replace H := H.1 h
      refine w_aload_n rfl rfl ?_
      refine m_geta (t := 0) (k := 3004) rfl rfl ?_
      refine w_iload_n rfl rfl ?_
      obtain ⟨g6, H⟩ := H
      refine m_ald rfl (f := 21) (k := 3004) rfl g6 ?_
      show wm iv L h0 (d + 1) 126 44 [lr 307, li a1, li a2, li r4] [vi (s3.2 21 a1)] (us s3 58 ((s3.1 58) - 1)) (qi F)
      refine w_iconst (n := 1) rfl rfl ?_
      refine w_icmp_le rfl (fun h => ?_) (fun h => ?_)
      · replace H := H.1 h
        refine w_iload_n rfl rfl ?_
        exact w_iret rfl rfl ⟨_, rfl, H⟩
      · replace H := H.2 h
        refine w_aload_n rfl rfl ?_
        refine w_bipush (n := 6) rfl rfl rfl ?_
        refine w_bipush (n := (-9)) rfl rfl rfl ?_
        refine w_iload_n rfl rfl ?_
        refine w_bipush (n := (-9)) rfl rfl rfl ?_
        refine w_bipush (n := (-9)) rfl rfl rfl ?_
        refine m_call (as := [vi 6, vi (-9), vi r4, vi (-9), vi (-9)]) (r := []) rfl rfl rfl rfl rfl rfl (wc_mono H (Nat.le_refl _) ?_)
        rintro _ s7 ⟨r8, rfl, H⟩
        show wm iv L h0 (d + 1) 126 61 [lr 307, li a1, li a2, li r4] [vi r8] s7 (qi F)
        refine w_goto rfl ?_
        exact w_iret rfl rfl ⟨_, rfl, H⟩
    · replace H := H.2 h
      refine w_bipush (n := (-9)) rfl rfl rfl ?_
      exact w_iret rfl rfl ⟨_, rfl, H⟩
  · replace H := H.2 h
    refine w_bipush (n := (-9)) rfl rfl rfl ?_
    exact w_iret rfl rfl ⟨_, rfl, H⟩

/-- HoleDeskModel.workPlain(II)I -/
theorem B127 {iv : List (Int × Int)} {L : Nat} {h0 : MH} {d : Nat} {s : SM} {a1 : Int} {a2 : Int} {F : Int → SM → Prop} (H : (0 ≤ a1 ∧ a1 < 3004) ∧ ((s.2 9 a1 = 0 → cm iv L h0 d 121 [vr 307, vi 4, vi a1, vi (-9), vi (-9), vi a2] s (qi fun r3 s2 => F r3 s2)) ∧ (s.2 9 a1 = 1 → cm iv L h0 d 121 [vr 307, vi 0, vi (s.2 10 a1), vi (-9), vi (-9), vi (-9)] s (qi fun r5 s4 => F r5 s4)) ∧ (s.2 9 a1 = 2 → cm iv L h0 d 121 [vr 307, vi 1, vi (s.2 10 a1), vi (-9), vi (-9), vi (-9)] s (qi fun r7 s6 => F r7 s6)) ∧ (s.2 9 a1 = 3 → ((s.2 21 a1 ≠ 1 → (-2147483648 ≤ 26 * a2 ∧ 26 * a2 ≤ 2147483647) ∧ (-2147483648 ≤ (26 * a2) + (s.2 10 a1) ∧ (26 * a2) + (s.2 10 a1) ≤ 2147483647) ∧ (0 ≤ (26 * a2) + (s.2 10 a1) ∧ (26 * a2) + (s.2 10 a1) < 33280) ∧ F (s.2 53 ((26 * a2) + (s.2 10 a1))) s) ∧ (s.2 21 a1 = 1 → cm iv L h0 d 121 [vr 307, vi 5, vi (s.2 10 a1), vi (-9), vi (-9), vi (-9)] s (qi fun r12 s11 => F r12 s11)))) ∧ (s.2 9 a1 = 4 ∨ s.2 9 a1 = 5 ∨ s.2 9 a1 = 6 ∨ s.2 9 a1 = 7 ∨ s.2 9 a1 = 9 ∨ s.2 9 a1 = 11 ∨ s.2 9 a1 = 12 ∨ s.2 9 a1 = 13 ∨ s.2 9 a1 = 14 ∨ s.2 9 a1 < 0 ∨ 15 < s.2 9 a1 → (-2147483648 ≤ 3 * a1 ∧ 3 * a1 ≤ 2147483647) ∧ (0 ≤ 3 * a1 ∧ 3 * a1 < 9012) ∧ cm iv L h0 d 126 [vr 307, vi (s.2 14 (3 * a1)), vi a2] s (qi fun r16 s15 => (0 ≤ s15.2 9 a1 ∧ s15.2 9 a1 < 16) ∧ ((pO (s15.2 9 a1) ≠ 2 → ((s15.1 59 ≤ 0 → cm iv L h0 d 128 [vr 307, vi a1, vi r16, vi (-9), vi a2] s15 (qi fun r19 s18 => F r19 s18)) ∧ (0 < s15.1 59 → F (-9) s15))) ∧ (pO (s15.2 9 a1) = 2 → ((s15.1 59 ≠ 0 → ((s15.1 59 ≤ 0 → cm iv L h0 d 128 [vr 307, vi a1, vi r16, vi (-9), vi a2] s15 (qi fun r21 s20 => F r21 s20)) ∧ (0 < s15.1 59 → F (-9) s15))) ∧ (s15.1 59 = 0 → (-2147483648 ≤ (3 * a1) + 1 ∧ (3 * a1) + 1 ≤ 2147483647) ∧ (0 ≤ (3 * a1) + 1 ∧ (3 * a1) + 1 < 9012) ∧ cm iv L h0 d 126 [vr 307, vi (s15.2 14 ((3 * a1) + 1)), vi a2] s15 (qi fun r25 s24 => ((s24.1 59 ≤ 0 → cm iv L h0 d 128 [vr 307, vi a1, vi r16, vi r25, vi a2] s24 (qi fun r27 s26 => F r27 s26)) ∧ (0 < s24.1 59 → F (-9) s24))))))))) ∧ (s.2 9 a1 = 8 → cm iv L h0 d 121 [vr 307, vi 2, vi a1, vi (-9), vi (-9), vi a2] s (qi fun r29 s28 => F r29 s28)) ∧ (s.2 9 a1 = 10 → (-2147483648 ≤ 3 * a1 ∧ 3 * a1 ≤ 2147483647) ∧ (0 ≤ 3 * a1 ∧ 3 * a1 < 9012) ∧ cm iv L h0 d 126 [vr 307, vi (s.2 14 (3 * a1)), vi a2] s (qi fun r33 s32 => ((s32.1 59 ≤ 0 → cm iv L h0 d 122 [vr 307, vi a2] s32 (qi fun r35 s34 => (-2147483648 ≤ 26 * r35 ∧ 26 * r35 ≤ 2147483647) ∧ (-2147483648 ≤ (26 * r35) + (s34.2 10 a1) ∧ (26 * r35) + (s34.2 10 a1) ≤ 2147483647) ∧ (0 ≤ (26 * r35) + (s34.2 10 a1) ∧ (26 * r35) + (s34.2 10 a1) < 33280) ∧ (-2147483648 ≤ (3 * a1) + 1 ∧ (3 * a1) + 1 ≤ 2147483647) ∧ (0 ≤ (3 * a1) + 1 ∧ (3 * a1) + 1 < 9012) ∧ cm iv L h0 d 126 [vr 307, vi (s34.2 14 ((3 * a1) + 1)), vi r35] (ua s34 53 ((26 * r35) + (s34.2 10 a1)) r33) (qi fun r42 s41 => F r42 s41))) ∧ (0 < s32.1 59 → F (-9) s32)))) ∧ (s.2 9 a1 = 15 → (-2147483648 ≤ 3 * a1 ∧ 3 * a1 ≤ 2147483647) ∧ (0 ≤ 3 * a1 ∧ 3 * a1 < 9012) ∧ cm iv L h0 d 126 [vr 307, vi (s.2 14 (3 * a1)), vi a2] s (qi fun r46 s45 => F r46 s45)))) : cm iv L h0 (d + 1) 127 [vr 307, vi a1, vi a2] s (qi F) := by
  show wm iv L h0 (d + 1) 127 0 [lr 307, li a1, li a2] [] s (qi F)
  refine w_aload_n rfl rfl ?_
  refine m_geta (t := 0) (k := 3004) rfl rfl ?_
  refine w_iload_n rfl rfl ?_
  obtain ⟨g1, H⟩ := H
  refine m_ald rfl (f := 9) (k := 3004) rfl g1 ?_
  have J84 : (s.2 9 a1 = 0) → wm iv L h0 (d + 1) 127 84 [lr 307, li a1, li a2] [] s (qi F) := fun h => by
    replace H := H.1 h
    refine w_aload_n rfl rfl ?_
    refine w_iconst (n := 4) rfl rfl ?_
    refine w_iload_n rfl rfl ?_
    refine w_bipush (n := (-9)) rfl rfl rfl ?_
    refine w_bipush (n := (-9)) rfl rfl rfl ?_
    refine w_iload_n rfl rfl ?_
    refine m_call (as := [vi 4, vi a1, vi (-9), vi (-9), vi a2]) (r := []) rfl rfl rfl rfl rfl rfl (wc_mono H (Nat.le_refl _) ?_)
    rintro _ s2 ⟨r3, rfl, H⟩
    show wm iv L h0 (d + 1) 127 95 [lr 307, li a1, li a2] [vi r3] s2 (qi F)
    exact w_iret rfl rfl ⟨_, rfl, H⟩
  have J96 : (s.2 9 a1 = 1) → wm iv L h0 (d + 1) 127 96 [lr 307, li a1, li a2] [] s (qi F) := fun h => by
    replace H := H.2.1 h
    refine w_aload_n rfl rfl ?_
    refine w_iconst (n := 0) rfl rfl ?_
    refine w_aload_n rfl rfl ?_
    refine m_geta (t := 0) (k := 3004) rfl rfl ?_
    refine w_iload_n rfl rfl ?_
    refine m_ald rfl (f := 10) (k := 3004) rfl g1 ?_
    refine w_bipush (n := (-9)) rfl rfl rfl ?_
    refine w_bipush (n := (-9)) rfl rfl rfl ?_
    refine w_bipush (n := (-9)) rfl rfl rfl ?_
    refine m_call (as := [vi 0, vi (s.2 10 a1), vi (-9), vi (-9), vi (-9)]) (r := []) rfl rfl rfl rfl rfl rfl (wc_mono H (Nat.le_refl _) ?_)
    rintro _ s4 ⟨r5, rfl, H⟩
    show wm iv L h0 (d + 1) 127 113 [lr 307, li a1, li a2] [vi r5] s4 (qi F)
    exact w_iret rfl rfl ⟨_, rfl, H⟩
  have J114 : (s.2 9 a1 = 2) → wm iv L h0 (d + 1) 127 114 [lr 307, li a1, li a2] [] s (qi F) := fun h => by
    replace H := H.2.2.1 h
    refine w_aload_n rfl rfl ?_
    refine w_iconst (n := 1) rfl rfl ?_
    refine w_aload_n rfl rfl ?_
    refine m_geta (t := 0) (k := 3004) rfl rfl ?_
    refine w_iload_n rfl rfl ?_
    refine m_ald rfl (f := 10) (k := 3004) rfl g1 ?_
    refine w_bipush (n := (-9)) rfl rfl rfl ?_
    refine w_bipush (n := (-9)) rfl rfl rfl ?_
    refine w_bipush (n := (-9)) rfl rfl rfl ?_
    refine m_call (as := [vi 1, vi (s.2 10 a1), vi (-9), vi (-9), vi (-9)]) (r := []) rfl rfl rfl rfl rfl rfl (wc_mono H (Nat.le_refl _) ?_)
    rintro _ s6 ⟨r7, rfl, H⟩
    show wm iv L h0 (d + 1) 127 131 [lr 307, li a1, li a2] [vi r7] s6 (qi F)
    exact w_iret rfl rfl ⟨_, rfl, H⟩
  have J132 : (s.2 9 a1 = 3) → wm iv L h0 (d + 1) 127 132 [lr 307, li a1, li a2] [] s (qi F) := fun h => by
    replace H := H.2.2.2.1 h
    refine w_aload_n rfl rfl ?_
    refine m_geta (t := 0) (k := 3004) rfl rfl ?_
    refine w_iload_n rfl rfl ?_
    refine m_ald rfl (f := 21) (k := 3004) rfl g1 ?_
    refine w_iconst (n := 1) rfl rfl ?_
    refine w_icmp_ne rfl (fun h => ?_) (fun h => ?_)
    · replace H := H.1 h
      refine w_aload_n rfl rfl ?_
      refine m_geta (t := 0) (k := 33280) rfl rfl ?_
      refine w_bipush (n := 26) rfl rfl rfl ?_
      refine w_iload_n rfl rfl ?_
      obtain ⟨g8, H⟩ := H
      refine w_imul rfl g8 ?_
      refine w_aload_n rfl rfl ?_
      refine m_geta (t := 0) (k := 3004) rfl rfl ?_
      refine w_iload_n rfl rfl ?_
      refine m_ald rfl (f := 10) (k := 3004) rfl g1 ?_
      obtain ⟨g9, H⟩ := H
      refine w_iadd rfl g9 ?_
      obtain ⟨g10, H⟩ := H
      refine m_ald rfl (f := 53) (k := 33280) rfl g10 ?_
      exact w_iret rfl rfl ⟨_, rfl, H⟩
    · replace H := H.2 h
      refine w_aload_n rfl rfl ?_
      refine w_iconst (n := 5) rfl rfl ?_
      refine w_aload_n rfl rfl ?_
      refine m_geta (t := 0) (k := 3004) rfl rfl ?_
      refine w_iload_n rfl rfl ?_
      refine m_ald rfl (f := 10) (k := 3004) rfl g1 ?_
      refine w_bipush (n := (-9)) rfl rfl rfl ?_
      refine w_bipush (n := (-9)) rfl rfl rfl ?_
      refine w_bipush (n := (-9)) rfl rfl rfl ?_
      refine m_call (as := [vi 5, vi (s.2 10 a1), vi (-9), vi (-9), vi (-9)]) (r := []) rfl rfl rfl rfl rfl rfl (wc_mono H (Nat.le_refl _) ?_)
      rintro _ s11 ⟨r12, rfl, H⟩
      show wm iv L h0 (d + 1) 127 159 [lr 307, li a1, li a2] [vi r12] s11 (qi F)
      refine w_goto rfl ?_
      exact w_iret rfl rfl ⟨_, rfl, H⟩
  have J271 : (s.2 9 a1 = 4 ∨ s.2 9 a1 = 5 ∨ s.2 9 a1 = 6 ∨ s.2 9 a1 = 7 ∨ s.2 9 a1 = 9 ∨ s.2 9 a1 = 11 ∨ s.2 9 a1 = 12 ∨ s.2 9 a1 = 13 ∨ s.2 9 a1 = 14 ∨ s.2 9 a1 < 0 ∨ 15 < s.2 9 a1) → wm iv L h0 (d + 1) 127 271 [lr 307, li a1, li a2] [] s (qi F) := fun h => by
    replace H := H.2.2.2.2.1 h
    refine w_aload_n rfl rfl ?_
    refine w_aload_n rfl rfl ?_
    refine m_geta (t := 0) (k := 9012) rfl rfl ?_
    refine w_iconst (n := 3) rfl rfl ?_
    refine w_iload_n rfl rfl ?_
    obtain ⟨g13, H⟩ := H
    refine w_imul rfl g13 ?_
    obtain ⟨g14, H⟩ := H
    refine m_ald rfl (f := 14) (k := 9012) rfl g14 ?_
    refine w_iload_n rfl rfl ?_
    refine m_call (as := [vi (s.2 14 (3 * a1)), vi a2]) (r := []) rfl rfl rfl rfl rfl rfl (wc_mono H (Nat.le_refl _) ?_)
    rintro _ s15 ⟨r16, rfl, H⟩
    show wm iv L h0 (d + 1) 127 284 [lr 307, li a1, li a2] [vi r16] s15 (qi F)
    refine w_istore_n rfl rfl ?_
    refine w_aload_n rfl rfl ?_
    refine m_geta (t := 0) (k := 3004) rfl rfl ?_
    refine w_iload_n rfl rfl ?_
    refine m_ald rfl (f := 9) (k := 3004) rfl g1 ?_
    obtain ⟨g17, H⟩ := H
    refine w_static (as := [vi (s15.2 9 a1)]) (r := []) rfl rfl rfl rfl rfl (m_parts g17 ?_)
    show wm iv L h0 (d + 1) 127 294 [lr 307, li a1, li a2, li r16] [vi (pO (s15.2 9 a1))] s15 (qi F)
    refine w_iconst (n := 2) rfl rfl ?_
    refine w_icmp_ne rfl (fun h => ?_) (fun h => ?_)
    · replace H := H.1 h
      refine w_iconst (n := 0) rfl rfl ?_
      refine w_istore rfl rfl ?_
      refine w_iload rfl rfl ?_
      refine w_if_eq rfl (fun _ => ?_) (fun h => absurd h (by decide))
      refine w_bipush (n := (-9)) rfl rfl rfl ?_
      refine w_istore rfl rfl ?_
      refine w_aload_n rfl rfl ?_
      refine m_get rfl rfl ?_
      refine w_if_le rfl (fun h => ?_) (fun h => ?_)
      · replace H := H.1 h
        refine w_aload_n rfl rfl ?_
        refine w_iload_n rfl rfl ?_
        refine w_iload_n rfl rfl ?_
        refine w_iload rfl rfl ?_
        refine w_iload_n rfl rfl ?_
        refine m_call (as := [vi a1, vi r16, vi (-9), vi a2]) (r := []) rfl rfl rfl rfl rfl rfl (wc_mono H (Nat.le_refl _) ?_)
        rintro _ s18 ⟨r19, rfl, H⟩
        show wm iv L h0 (d + 1) 127 360 [lr 307, li a1, li a2, li r16, li 0, li (-9)] [vi r19] s18 (qi F)
        exact w_iret rfl rfl ⟨_, rfl, H⟩
      · replace H := H.2 h
        refine w_bipush (n := (-9)) rfl rfl rfl ?_
        refine w_goto rfl ?_
        exact w_iret rfl rfl ⟨_, rfl, H⟩
    · replace H := H.2 h
      refine w_iconst (n := 1) rfl rfl ?_
      refine w_goto rfl ?_
      refine w_istore rfl rfl ?_
      refine w_iload rfl rfl ?_
      refine w_if_eq rfl (fun h => absurd h (by decide)) (fun _ => ?_)
      refine w_aload_n rfl rfl ?_
      refine m_get rfl rfl ?_
      refine w_if_ne rfl (fun h => ?_) (fun h => ?_)
      · replace H := H.1 h
        refine w_bipush (n := (-9)) rfl rfl rfl ?_
        refine w_istore rfl rfl ?_
        refine w_aload_n rfl rfl ?_
        refine m_get rfl rfl ?_
        refine w_if_le rfl (fun h => ?_) (fun h => ?_)
        · replace H := H.1 h
          refine w_aload_n rfl rfl ?_
          refine w_iload_n rfl rfl ?_
          refine w_iload_n rfl rfl ?_
          refine w_iload rfl rfl ?_
          refine w_iload_n rfl rfl ?_
          refine m_call (as := [vi a1, vi r16, vi (-9), vi a2]) (r := []) rfl rfl rfl rfl rfl rfl (wc_mono H (Nat.le_refl _) ?_)
          rintro _ s20 ⟨r21, rfl, H⟩
          show wm iv L h0 (d + 1) 127 360 [lr 307, li a1, li a2, li r16, li 1, li (-9)] [vi r21] s20 (qi F)
          exact w_iret rfl rfl ⟨_, rfl, H⟩
        · replace H := H.2 h
          refine w_bipush (n := (-9)) rfl rfl rfl ?_
          refine w_goto rfl ?_
          exact w_iret rfl rfl ⟨_, rfl, H⟩
      · replace H := H.2 h
        refine w_aload_n rfl rfl ?_
        refine w_aload_n rfl rfl ?_
        refine m_geta (t := 0) (k := 9012) rfl rfl ?_
        refine w_iconst (n := 3) rfl rfl ?_
        refine w_iload_n rfl rfl ?_
        refine w_imul rfl g13 ?_
        refine w_iconst (n := 1) rfl rfl ?_
        obtain ⟨g22, H⟩ := H
        refine w_iadd rfl g22 ?_
        obtain ⟨g23, H⟩ := H
        refine m_ald rfl (f := 14) (k := 9012) rfl g23 ?_
        refine w_iload_n rfl rfl ?_
        refine m_call (as := [vi (s15.2 14 ((3 * a1) + 1)), vi a2]) (r := []) rfl rfl rfl rfl rfl rfl (wc_mono H (Nat.le_refl _) ?_)
        rintro _ s24 ⟨r25, rfl, H⟩
        show wm iv L h0 (d + 1) 127 332 [lr 307, li a1, li a2, li r16, li 1] [vi r25] s24 (qi F)
        refine w_goto rfl ?_
        refine w_istore rfl rfl ?_
        refine w_aload_n rfl rfl ?_
        refine m_get rfl rfl ?_
        refine w_if_le rfl (fun h => ?_) (fun h => ?_)
        · replace H := H.1 h
          refine w_aload_n rfl rfl ?_
          refine w_iload_n rfl rfl ?_
          refine w_iload_n rfl rfl ?_
          refine w_iload rfl rfl ?_
          refine w_iload_n rfl rfl ?_
          refine m_call (as := [vi a1, vi r16, vi r25, vi a2]) (r := []) rfl rfl rfl rfl rfl rfl (wc_mono H (Nat.le_refl _) ?_)
          rintro _ s26 ⟨r27, rfl, H⟩
          show wm iv L h0 (d + 1) 127 360 [lr 307, li a1, li a2, li r16, li 1, li r25] [vi r27] s26 (qi F)
          exact w_iret rfl rfl ⟨_, rfl, H⟩
        · replace H := H.2 h
          refine w_bipush (n := (-9)) rfl rfl rfl ?_
          refine w_goto rfl ?_
          exact w_iret rfl rfl ⟨_, rfl, H⟩
  have J179 : (s.2 9 a1 = 8) → wm iv L h0 (d + 1) 127 179 [lr 307, li a1, li a2] [] s (qi F) := fun h => by
    replace H := H.2.2.2.2.2.1 h
    refine w_aload_n rfl rfl ?_
    refine w_iconst (n := 2) rfl rfl ?_
    refine w_iload_n rfl rfl ?_
    refine w_bipush (n := (-9)) rfl rfl rfl ?_
    refine w_bipush (n := (-9)) rfl rfl rfl ?_
    refine w_iload_n rfl rfl ?_
    refine m_call (as := [vi 2, vi a1, vi (-9), vi (-9), vi a2]) (r := []) rfl rfl rfl rfl rfl rfl (wc_mono H (Nat.le_refl _) ?_)
    rintro _ s28 ⟨r29, rfl, H⟩
    show wm iv L h0 (d + 1) 127 190 [lr 307, li a1, li a2] [vi r29] s28 (qi F)
    exact w_iret rfl rfl ⟨_, rfl, H⟩
  have J205 : (s.2 9 a1 = 10) → wm iv L h0 (d + 1) 127 205 [lr 307, li a1, li a2] [] s (qi F) := fun h => by
    replace H := H.2.2.2.2.2.2.1 h
    refine w_aload_n rfl rfl ?_
    refine w_aload_n rfl rfl ?_
    refine m_geta (t := 0) (k := 9012) rfl rfl ?_
    refine w_iconst (n := 3) rfl rfl ?_
    refine w_iload_n rfl rfl ?_
    obtain ⟨g30, H⟩ := H
    refine w_imul rfl g30 ?_
    obtain ⟨g31, H⟩ := H
    refine m_ald rfl (f := 14) (k := 9012) rfl g31 ?_
    refine w_iload_n rfl rfl ?_
    refine m_call (as := [vi (s.2 14 (3 * a1)), vi a2]) (r := []) rfl rfl rfl rfl rfl rfl (wc_mono H (Nat.le_refl _) ?_)
    rintro _ s32 ⟨r33, rfl, H⟩
    show wm iv L h0 (d + 1) 127 218 [lr 307, li a1, li a2] [vi r33] s32 (qi F)
    refine w_istore_n rfl rfl ?_
    refine w_aload_n rfl rfl ?_
    refine m_get rfl rfl ?_
    refine w_if_le rfl (fun h => ?_) (fun h => ?_)
    · replace H := H.1 h
      refine w_aload_n rfl rfl ?_
      refine w_iload_n rfl rfl ?_
      refine m_call (as := [vi a2]) (r := []) rfl rfl rfl rfl rfl rfl (wc_mono H (Nat.le_refl _) ?_)
      rintro _ s34 ⟨r35, rfl, H⟩
      show wm iv L h0 (d + 1) 127 234 [lr 307, li a1, li a2, li r33] [vi r35] s34 (qi F)
      refine w_istore rfl rfl ?_
      refine w_aload_n rfl rfl ?_
      refine m_geta (t := 0) (k := 33280) rfl rfl ?_
      refine w_bipush (n := 26) rfl rfl rfl ?_
      refine w_iload rfl rfl ?_
      obtain ⟨g36, H⟩ := H
      refine w_imul rfl g36 ?_
      refine w_aload_n rfl rfl ?_
      refine m_geta (t := 0) (k := 3004) rfl rfl ?_
      refine w_iload_n rfl rfl ?_
      refine m_ald rfl (f := 10) (k := 3004) rfl g1 ?_
      obtain ⟨g37, H⟩ := H
      refine w_iadd rfl g37 ?_
      refine w_iload_n rfl rfl ?_
      obtain ⟨g38, H⟩ := H
      refine m_ast rfl (f := 53) (k := 33280) rfl g38 ?_
      refine w_aload_n rfl rfl ?_
      refine w_aload_n rfl rfl ?_
      refine m_geta (t := 0) (k := 9012) rfl rfl ?_
      refine w_iconst (n := 3) rfl rfl ?_
      refine w_iload_n rfl rfl ?_
      refine w_imul rfl g30 ?_
      refine w_iconst (n := 1) rfl rfl ?_
      obtain ⟨g39, H⟩ := H
      refine w_iadd rfl g39 ?_
      obtain ⟨g40, H⟩ := H
      refine m_ald rfl (f := 14) (k := 9012) rfl g40 ?_
      show wm iv L h0 (d + 1) 127 265 [lr 307, li a1, li a2, li r33, li r35] [vi (s34.2 14 ((3 * a1) + 1)), vr 307] (ua s34 53 ((26 * r35) + (s34.2 10 a1)) r33) (qi F)
      refine w_iload rfl rfl ?_
      refine m_call (as := [vi (s34.2 14 ((3 * a1) + 1)), vi r35]) (r := []) rfl rfl rfl rfl rfl rfl (wc_mono H (Nat.le_refl _) ?_)
      rintro _ s41 ⟨r42, rfl, H⟩
      show wm iv L h0 (d + 1) 127 270 [lr 307, li a1, li a2, li r33, li r35] [vi r42] s41 (qi F)
      exact w_iret rfl rfl ⟨_, rfl, H⟩
    · replace H := H.2 h
      refine w_bipush (n := (-9)) rfl rfl rfl ?_
      exact w_iret rfl rfl ⟨_, rfl, H⟩
  have J191 : (s.2 9 a1 = 15) → wm iv L h0 (d + 1) 127 191 [lr 307, li a1, li a2] [] s (qi F) := fun h => by
    replace H := H.2.2.2.2.2.2.2 h
    refine w_aload_n rfl rfl ?_
    refine w_aload_n rfl rfl ?_
    refine m_geta (t := 0) (k := 9012) rfl rfl ?_
    refine w_iconst (n := 3) rfl rfl ?_
    refine w_iload_n rfl rfl ?_
    obtain ⟨g43, H⟩ := H
    refine w_imul rfl g43 ?_
    obtain ⟨g44, H⟩ := H
    refine m_ald rfl (f := 14) (k := 9012) rfl g44 ?_
    refine w_iload_n rfl rfl ?_
    refine m_call (as := [vi (s.2 14 (3 * a1)), vi a2]) (r := []) rfl rfl rfl rfl rfl rfl (wc_mono H (Nat.le_refl _) ?_)
    rintro _ s45 ⟨r46, rfl, H⟩
    show wm iv L h0 (d + 1) 127 204 [lr 307, li a1, li a2] [vi r46] s45 (qi F)
    exact w_iret rfl rfl ⟨_, rfl, H⟩
  refine w_tsw (td := 271) (ts := [84, 96, 114, 132, 271, 271, 271, 271, 179, 271, 205, 271, 271, 271, 271, 191]) rfl rfl rfl rfl rfl rfl (fun h => J271 (by omega)) ?_
  exact swA_c (fun h => J84 (by omega)) (swA_c (fun h => J96 (by omega)) (swA_c (fun h => J114 (by omega)) (swA_c (fun h => J132 (by omega)) (swA_c (fun h => J271 (by omega)) (swA_c (fun h => J271 (by omega)) (swA_c (fun h => J271 (by omega)) (swA_c (fun h => J271 (by omega)) (swA_c (fun h => J179 (by omega)) (swA_c (fun h => J271 (by omega)) (swA_c (fun h => J205 (by omega)) (swA_c (fun h => J271 (by omega)) (swA_c (fun h => J271 (by omega)) (swA_c (fun h => J271 (by omega)) (swA_c (fun h => J271 (by omega)) (swA_c (fun h => J191 (by omega)) (swA_n))))))))))))))))

/-- HoleDeskModel.act(IIII)I -/
theorem B128 {iv : List (Int × Int)} {L : Nat} {h0 : MH} {d : Nat} {s : SM} {a1 : Int} {a2 : Int} {a3 : Int} {a4 : Int} {F : Int → SM → Prop} (H : (0 ≤ a1 ∧ a1 < 3004) ∧ ((s.2 9 a1 = 4 ∨ s.2 9 a1 = 5 ∨ s.2 9 a1 = 6 ∨ s.2 9 a1 = 7 → cm iv L h0 d 129 [vr 307, vi a1, vi a2, vi a3] s (qi fun r3 s2 => F r3 s2)) ∧ (s.2 9 a1 = 8 ∨ s.2 9 a1 = 10 ∨ s.2 9 a1 < 4 ∨ 12 < s.2 9 a1 → (0 ≤ a2 ∧ a2 < 2600) ∧ ((s.2 46 a2 ≠ 3 → cm iv L h0 d 125 [vr 307, vi a2] s (qi fun r6 s5 => ((r6 = 0 → cm iv L h0 d 124 [vr 307, vi 3, vi a1] s5 (qi fun r8 s7 => F r8 s7)) ∧ (r6 ≠ 0 → cm iv L h0 d 121 [vr 307, vi 7, vi a1, vi a2, vi (-9), vi (-9)] s5 (qi fun r10 s9 => F r10 s9))))) ∧ (s.2 46 a2 = 3 → ((s.2 9 a1 ≠ 13 → F (s.2 49 a2) s) ∧ (s.2 9 a1 = 13 → F (s.2 48 a2) s))))) ∧ (s.2 9 a1 = 9 → (0 ≤ a2 ∧ a2 < 2600) ∧ ((s.2 46 a2 ≠ 2 → cm iv L h0 d 125 [vr 307, vi a2] s (qi fun r13 s12 => ((r13 = 0 → cm iv L h0 d 124 [vr 307, vi 3, vi a1] s12 (qi fun r15 s14 => F r15 s14)) ∧ (r13 ≠ 0 → cm iv L h0 d 121 [vr 307, vi 7, vi a1, vi a2, vi a3, vi (-9)] s12 (qi fun r17 s16 => F r17 s16))))) ∧ (s.2 46 a2 = 2 → cm iv L h0 d 122 [vr 307, vi (s.2 50 a2)] s (qi fun r19 s18 => (-2147483648 ≤ 26 * r19 ∧ 26 * r19 ≤ 2147483647) ∧ (0 ≤ s.2 47 a2 ∧ s.2 47 a2 < 3004) ∧ (-2147483648 ≤ (26 * r19) + (s18.2 10 (s.2 47 a2)) ∧ (26 * r19) + (s18.2 10 (s.2 47 a2)) ≤ 2147483647) ∧ (0 ≤ (26 * r19) + (s18.2 10 (s.2 47 a2)) ∧ (26 * r19) + (s18.2 10 (s.2 47 a2)) < 33280) ∧ (-2147483648 ≤ 3 * (s.2 47 a2) ∧ 3 * (s.2 47 a2) ≤ 2147483647) ∧ (0 ≤ 3 * (s.2 47 a2) ∧ 3 * (s.2 47 a2) < 9012) ∧ cm iv L h0 d 126 [vr 307, vi (s18.2 14 (3 * (s.2 47 a2))), vi r19] (ua s18 53 ((26 * r19) + (s18.2 10 (s.2 47 a2))) a3) (qi fun r27 s26 => F r27 s26))))) ∧ (s.2 9 a1 = 11 → (0 ≤ a2 ∧ a2 < 2600) ∧ ((s.2 46 a2 ≠ 1 → cm iv L h0 d 125 [vr 307, vi a2] s (qi fun r30 s29 => ((r30 = 0 → cm iv L h0 d 124 [vr 307, vi 3, vi a1] s29 (qi fun r32 s31 => F r32 s31)) ∧ (r30 ≠ 0 → cm iv L h0 d 121 [vr 307, vi 7, vi a1, vi a2, vi (-9), vi a4] s29 (qi fun r34 s33 => F r34 s33))))) ∧ (s.2 46 a2 = 1 → (-2147483648 ≤ 3 * a1 ∧ 3 * a1 ≤ 2147483647) ∧ ((s.2 47 a2 ≠ 1 → (-2147483648 ≤ (3 * a1) + 2 ∧ (3 * a1) + 2 ≤ 2147483647) ∧ (0 ≤ (3 * a1) + 2 ∧ (3 * a1) + 2 < 9012) ∧ cm iv L h0 d 126 [vr 307, vi (s.2 14 ((3 * a1) + 2)), vi a4] s (qi fun r39 s38 => F r39 s38)) ∧ (s.2 47 a2 = 1 → (-2147483648 ≤ (3 * a1) + 1 ∧ (3 * a1) + 1 ≤ 2147483647) ∧ (0 ≤ (3 * a1) + 1 ∧ (3 * a1) + 1 < 9012) ∧ cm iv L h0 d 126 [vr 307, vi (s.2 14 ((3 * a1) + 1)), vi a4] s (qi fun r43 s42 => F r43 s42)))))) ∧ (s.2 9 a1 = 12 → cm iv L h0 d 121 [vr 307, vi 3, vi (-9), vi a2, vi a3, vi (-9)] s (qi fun r45 s44 => F r45 s44)))) : cm iv L h0 (d + 1) 128 [vr 307, vi a1, vi a2, vi a3, vi a4] s (qi F) := by
  show wm iv L h0 (d + 1) 128 0 [lr 307, li a1, li a2, li a3, li a4] [] s (qi F)
  refine w_aload_n rfl rfl ?_
  refine m_geta (t := 0) (k := 3004) rfl rfl ?_
  refine w_iload_n rfl rfl ?_
  obtain ⟨g1, H⟩ := H
  refine m_ald rfl (f := 9) (k := 3004) rfl g1 ?_
  have J56 : (s.2 9 a1 = 4 ∨ s.2 9 a1 = 5 ∨ s.2 9 a1 = 6 ∨ s.2 9 a1 = 7) → wm iv L h0 (d + 1) 128 56 [lr 307, li a1, li a2, li a3, li a4] [] s (qi F) := fun h => by
    replace H := H.1 h
    refine w_aload_n rfl rfl ?_
    refine w_iload_n rfl rfl ?_
    refine w_iload_n rfl rfl ?_
    refine w_iload_n rfl rfl ?_
    refine m_call (as := [vi a1, vi a2, vi a3]) (r := []) rfl rfl rfl rfl rfl rfl (wc_mono H (Nat.le_refl _) ?_)
    rintro _ s2 ⟨r3, rfl, H⟩
    show wm iv L h0 (d + 1) 128 63 [lr 307, li a1, li a2, li a3, li a4] [vi r3] s2 (qi F)
    exact w_iret rfl rfl ⟨_, rfl, H⟩
  have J241 : (s.2 9 a1 = 8 ∨ s.2 9 a1 = 10 ∨ s.2 9 a1 < 4 ∨ 12 < s.2 9 a1) → wm iv L h0 (d + 1) 128 241 [lr 307, li a1, li a2, li a3, li a4] [] s (qi F) := fun h => by
    replace H := H.2.1 h
    refine w_aload_n rfl rfl ?_
    refine m_geta (t := 0) (k := 2600) rfl rfl ?_
    refine w_iload_n rfl rfl ?_
    obtain ⟨g4, H⟩ := H
    refine m_ald rfl (f := 46) (k := 2600) rfl g4 ?_
    refine w_iconst (n := 3) rfl rfl ?_
    refine w_icmp_ne rfl (fun h => ?_) (fun h => ?_)
    · replace H := H.1 h
      refine w_aload_n rfl rfl ?_
      refine w_iload_n rfl rfl ?_
      refine m_call (as := [vi a2]) (r := []) rfl rfl rfl rfl rfl rfl (wc_mono H (Nat.le_refl _) ?_)
      rintro _ s5 ⟨r6, rfl, H⟩
      show wm iv L h0 (d + 1) 128 283 [lr 307, li a1, li a2, li a3, li a4] [vi r6] s5 (qi F)
      refine w_if_eq rfl (fun h => ?_) (fun h => ?_)
      · replace H := H.1 h
        refine w_aload_n rfl rfl ?_
        refine w_iconst (n := 3) rfl rfl ?_
        refine w_iload_n rfl rfl ?_
        refine m_call (as := [vi 3, vi a1]) (r := []) rfl rfl rfl rfl rfl rfl (wc_mono H (Nat.le_refl _) ?_)
        rintro _ s7 ⟨r8, rfl, H⟩
        show wm iv L h0 (d + 1) 128 307 [lr 307, li a1, li a2, li a3, li a4] [vi r8] s7 (qi F)
        exact w_iret rfl rfl ⟨_, rfl, H⟩
      · replace H := H.2 h
        refine w_aload_n rfl rfl ?_
        refine w_bipush (n := 7) rfl rfl rfl ?_
        refine w_iload_n rfl rfl ?_
        refine w_iload_n rfl rfl ?_
        refine w_bipush (n := (-9)) rfl rfl rfl ?_
        refine w_bipush (n := (-9)) rfl rfl rfl ?_
        refine m_call (as := [vi 7, vi a1, vi a2, vi (-9), vi (-9)]) (r := []) rfl rfl rfl rfl rfl rfl (wc_mono H (Nat.le_refl _) ?_)
        rintro _ s9 ⟨r10, rfl, H⟩
        show wm iv L h0 (d + 1) 128 298 [lr 307, li a1, li a2, li a3, li a4] [vi r10] s9 (qi F)
        refine w_goto rfl ?_
        exact w_iret rfl rfl ⟨_, rfl, H⟩
    · replace H := H.2 h
      refine w_aload_n rfl rfl ?_
      refine m_geta (t := 0) (k := 3004) rfl rfl ?_
      refine w_iload_n rfl rfl ?_
      refine m_ald rfl (f := 9) (k := 3004) rfl g1 ?_
      refine w_bipush (n := 13) rfl rfl rfl ?_
      refine w_icmp_ne rfl (fun h => ?_) (fun h => ?_)
      · replace H := H.1 h
        refine w_aload_n rfl rfl ?_
        refine m_geta (t := 0) (k := 2600) rfl rfl ?_
        refine w_iload_n rfl rfl ?_
        refine m_ald rfl (f := 49) (k := 2600) rfl g4 ?_
        exact w_iret rfl rfl ⟨_, rfl, H⟩
      · replace H := H.2 h
        refine w_aload_n rfl rfl ?_
        refine m_geta (t := 0) (k := 2600) rfl rfl ?_
        refine w_iload_n rfl rfl ?_
        refine m_ald rfl (f := 48) (k := 2600) rfl g4 ?_
        refine w_goto rfl ?_
        exact w_iret rfl rfl ⟨_, rfl, H⟩
  have J64 : (s.2 9 a1 = 9) → wm iv L h0 (d + 1) 128 64 [lr 307, li a1, li a2, li a3, li a4] [] s (qi F) := fun h => by
    replace H := H.2.2.1 h
    refine w_aload_n rfl rfl ?_
    refine m_geta (t := 0) (k := 2600) rfl rfl ?_
    refine w_iload_n rfl rfl ?_
    obtain ⟨g11, H⟩ := H
    refine m_ald rfl (f := 46) (k := 2600) rfl g11 ?_
    refine w_iconst (n := 2) rfl rfl ?_
    refine w_icmp_ne rfl (fun h => ?_) (fun h => ?_)
    · replace H := H.1 h
      refine w_aload_n rfl rfl ?_
      refine w_iload_n rfl rfl ?_
      refine m_call (as := [vi a2]) (r := []) rfl rfl rfl rfl rfl rfl (wc_mono H (Nat.le_refl _) ?_)
      rintro _ s12 ⟨r13, rfl, H⟩
      show wm iv L h0 (d + 1) 128 134 [lr 307, li a1, li a2, li a3, li a4] [vi r13] s12 (qi F)
      refine w_if_eq rfl (fun h => ?_) (fun h => ?_)
      · replace H := H.1 h
        refine w_aload_n rfl rfl ?_
        refine w_iconst (n := 3) rfl rfl ?_
        refine w_iload_n rfl rfl ?_
        refine m_call (as := [vi 3, vi a1]) (r := []) rfl rfl rfl rfl rfl rfl (wc_mono H (Nat.le_refl _) ?_)
        rintro _ s14 ⟨r15, rfl, H⟩
        show wm iv L h0 (d + 1) 128 157 [lr 307, li a1, li a2, li a3, li a4] [vi r15] s14 (qi F)
        exact w_iret rfl rfl ⟨_, rfl, H⟩
      · replace H := H.2 h
        refine w_aload_n rfl rfl ?_
        refine w_bipush (n := 7) rfl rfl rfl ?_
        refine w_iload_n rfl rfl ?_
        refine w_iload_n rfl rfl ?_
        refine w_iload_n rfl rfl ?_
        refine w_bipush (n := (-9)) rfl rfl rfl ?_
        refine m_call (as := [vi 7, vi a1, vi a2, vi a3, vi (-9)]) (r := []) rfl rfl rfl rfl rfl rfl (wc_mono H (Nat.le_refl _) ?_)
        rintro _ s16 ⟨r17, rfl, H⟩
        show wm iv L h0 (d + 1) 128 148 [lr 307, li a1, li a2, li a3, li a4] [vi r17] s16 (qi F)
        refine w_goto rfl ?_
        exact w_iret rfl rfl ⟨_, rfl, H⟩
    · replace H := H.2 h
      refine w_aload_n rfl rfl ?_
      refine m_geta (t := 0) (k := 2600) rfl rfl ?_
      refine w_iload_n rfl rfl ?_
      refine m_ald rfl (f := 47) (k := 2600) rfl g11 ?_
      refine w_istore rfl rfl ?_
      refine w_aload_n rfl rfl ?_
      refine w_aload_n rfl rfl ?_
      refine m_geta (t := 0) (k := 2600) rfl rfl ?_
      refine w_iload_n rfl rfl ?_
      refine m_ald rfl (f := 50) (k := 2600) rfl g11 ?_
      refine m_call (as := [vi (s.2 50 a2)]) (r := []) rfl rfl rfl rfl rfl rfl (wc_mono H (Nat.le_refl _) ?_)
      rintro _ s18 ⟨r19, rfl, H⟩
      show wm iv L h0 (d + 1) 128 92 [lr 307, li a1, li a2, li a3, li a4, li (s.2 47 a2)] [vi r19] s18 (qi F)
      refine w_istore rfl rfl ?_
      refine w_aload_n rfl rfl ?_
      refine m_geta (t := 0) (k := 33280) rfl rfl ?_
      refine w_bipush (n := 26) rfl rfl rfl ?_
      refine w_iload rfl rfl ?_
      obtain ⟨g20, H⟩ := H
      refine w_imul rfl g20 ?_
      refine w_aload_n rfl rfl ?_
      refine m_geta (t := 0) (k := 3004) rfl rfl ?_
      refine w_iload rfl rfl ?_
      obtain ⟨g21, H⟩ := H
      refine m_ald rfl (f := 10) (k := 3004) rfl g21 ?_
      obtain ⟨g22, H⟩ := H
      refine w_iadd rfl g22 ?_
      refine w_iload_n rfl rfl ?_
      obtain ⟨g23, H⟩ := H
      refine m_ast rfl (f := 53) (k := 33280) rfl g23 ?_
      refine w_aload_n rfl rfl ?_
      refine w_aload_n rfl rfl ?_
      refine m_geta (t := 0) (k := 9012) rfl rfl ?_
      refine w_iconst (n := 3) rfl rfl ?_
      refine w_iload rfl rfl ?_
      obtain ⟨g24, H⟩ := H
      refine w_imul rfl g24 ?_
      obtain ⟨g25, H⟩ := H
      refine m_ald rfl (f := 14) (k := 9012) rfl g25 ?_
      show wm iv L h0 (d + 1) 128 123 [lr 307, li a1, li a2, li a3, li a4, li (s.2 47 a2), li r19] [vi (s18.2 14 (3 * (s.2 47 a2))), vr 307] (ua s18 53 ((26 * r19) + (s18.2 10 (s.2 47 a2))) a3) (qi F)
      refine w_iload rfl rfl ?_
      refine m_call (as := [vi (s18.2 14 (3 * (s.2 47 a2))), vi r19]) (r := []) rfl rfl rfl rfl rfl rfl (wc_mono H (Nat.le_refl _) ?_)
      rintro _ s26 ⟨r27, rfl, H⟩
      show wm iv L h0 (d + 1) 128 128 [lr 307, li a1, li a2, li a3, li a4, li (s.2 47 a2), li r19] [vi r27] s26 (qi F)
      exact w_iret rfl rfl ⟨_, rfl, H⟩
  have J158 : (s.2 9 a1 = 11) → wm iv L h0 (d + 1) 128 158 [lr 307, li a1, li a2, li a3, li a4] [] s (qi F) := fun h => by
    replace H := H.2.2.2.1 h
    refine w_aload_n rfl rfl ?_
    refine m_geta (t := 0) (k := 2600) rfl rfl ?_
    refine w_iload_n rfl rfl ?_
    obtain ⟨g28, H⟩ := H
    refine m_ald rfl (f := 46) (k := 2600) rfl g28 ?_
    refine w_iconst (n := 1) rfl rfl ?_
    refine w_icmp_ne rfl (fun h => ?_) (fun h => ?_)
    · replace H := H.1 h
      refine w_aload_n rfl rfl ?_
      refine w_iload_n rfl rfl ?_
      refine m_call (as := [vi a2]) (r := []) rfl rfl rfl rfl rfl rfl (wc_mono H (Nat.le_refl _) ?_)
      rintro _ s29 ⟨r30, rfl, H⟩
      show wm iv L h0 (d + 1) 128 204 [lr 307, li a1, li a2, li a3, li a4] [vi r30] s29 (qi F)
      refine w_if_eq rfl (fun h => ?_) (fun h => ?_)
      · replace H := H.1 h
        refine w_aload_n rfl rfl ?_
        refine w_iconst (n := 3) rfl rfl ?_
        refine w_iload_n rfl rfl ?_
        refine m_call (as := [vi 3, vi a1]) (r := []) rfl rfl rfl rfl rfl rfl (wc_mono H (Nat.le_refl _) ?_)
        rintro _ s31 ⟨r32, rfl, H⟩
        show wm iv L h0 (d + 1) 128 228 [lr 307, li a1, li a2, li a3, li a4] [vi r32] s31 (qi F)
        exact w_iret rfl rfl ⟨_, rfl, H⟩
      · replace H := H.2 h
        refine w_aload_n rfl rfl ?_
        refine w_bipush (n := 7) rfl rfl rfl ?_
        refine w_iload_n rfl rfl ?_
        refine w_iload_n rfl rfl ?_
        refine w_bipush (n := (-9)) rfl rfl rfl ?_
        refine w_iload rfl rfl ?_
        refine m_call (as := [vi 7, vi a1, vi a2, vi (-9), vi a4]) (r := []) rfl rfl rfl rfl rfl rfl (wc_mono H (Nat.le_refl _) ?_)
        rintro _ s33 ⟨r34, rfl, H⟩
        show wm iv L h0 (d + 1) 128 219 [lr 307, li a1, li a2, li a3, li a4] [vi r34] s33 (qi F)
        refine w_goto rfl ?_
        exact w_iret rfl rfl ⟨_, rfl, H⟩
    · replace H := H.2 h
      refine w_aload_n rfl rfl ?_
      refine w_aload_n rfl rfl ?_
      refine m_geta (t := 0) (k := 9012) rfl rfl ?_
      refine w_iconst (n := 3) rfl rfl ?_
      refine w_iload_n rfl rfl ?_
      obtain ⟨g35, H⟩ := H
      refine w_imul rfl g35 ?_
      refine w_aload_n rfl rfl ?_
      refine m_geta (t := 0) (k := 2600) rfl rfl ?_
      refine w_iload_n rfl rfl ?_
      refine m_ald rfl (f := 47) (k := 2600) rfl g28 ?_
      refine w_iconst (n := 1) rfl rfl ?_
      refine w_icmp_ne rfl (fun h => ?_) (fun h => ?_)
      · replace H := H.1 h
        refine w_iconst (n := 2) rfl rfl ?_
        obtain ⟨g36, H⟩ := H
        refine w_iadd rfl g36 ?_
        obtain ⟨g37, H⟩ := H
        refine m_ald rfl (f := 14) (k := 9012) rfl g37 ?_
        refine w_iload rfl rfl ?_
        refine m_call (as := [vi (s.2 14 ((3 * a1) + 2)), vi a4]) (r := []) rfl rfl rfl rfl rfl rfl (wc_mono H (Nat.le_refl _) ?_)
        rintro _ s38 ⟨r39, rfl, H⟩
        show wm iv L h0 (d + 1) 128 198 [lr 307, li a1, li a2, li a3, li a4] [vi r39] s38 (qi F)
        exact w_iret rfl rfl ⟨_, rfl, H⟩
      · replace H := H.2 h
        refine w_iconst (n := 1) rfl rfl ?_
        refine w_goto rfl ?_
        obtain ⟨g40, H⟩ := H
        refine w_iadd rfl g40 ?_
        obtain ⟨g41, H⟩ := H
        refine m_ald rfl (f := 14) (k := 9012) rfl g41 ?_
        refine w_iload rfl rfl ?_
        refine m_call (as := [vi (s.2 14 ((3 * a1) + 1)), vi a4]) (r := []) rfl rfl rfl rfl rfl rfl (wc_mono H (Nat.le_refl _) ?_)
        rintro _ s42 ⟨r43, rfl, H⟩
        show wm iv L h0 (d + 1) 128 198 [lr 307, li a1, li a2, li a3, li a4] [vi r43] s42 (qi F)
        exact w_iret rfl rfl ⟨_, rfl, H⟩
  have J229 : (s.2 9 a1 = 12) → wm iv L h0 (d + 1) 128 229 [lr 307, li a1, li a2, li a3, li a4] [] s (qi F) := fun h => by
    replace H := H.2.2.2.2 h
    refine w_aload_n rfl rfl ?_
    refine w_iconst (n := 3) rfl rfl ?_
    refine w_bipush (n := (-9)) rfl rfl rfl ?_
    refine w_iload_n rfl rfl ?_
    refine w_iload_n rfl rfl ?_
    refine w_bipush (n := (-9)) rfl rfl rfl ?_
    refine m_call (as := [vi 3, vi (-9), vi a2, vi a3, vi (-9)]) (r := []) rfl rfl rfl rfl rfl rfl (wc_mono H (Nat.le_refl _) ?_)
    rintro _ s44 ⟨r45, rfl, H⟩
    show wm iv L h0 (d + 1) 128 240 [lr 307, li a1, li a2, li a3, li a4] [vi r45] s44 (qi F)
    exact w_iret rfl rfl ⟨_, rfl, H⟩
  refine w_tsw (td := 241) (ts := [56, 56, 56, 56, 241, 64, 241, 158, 229]) rfl rfl rfl rfl rfl rfl (fun h => J241 (by omega)) ?_
  exact swA_c (fun h => J56 (by omega)) (swA_c (fun h => J56 (by omega)) (swA_c (fun h => J56 (by omega)) (swA_c (fun h => J56 (by omega)) (swA_c (fun h => J241 (by omega)) (swA_c (fun h => J64 (by omega)) (swA_c (fun h => J241 (by omega)) (swA_c (fun h => J158 (by omega)) (swA_c (fun h => J229 (by omega)) (swA_n)))))))))

/-- HoleDeskModel.reckoned(III)I -/
theorem B129 {iv : List (Int × Int)} {L : Nat} {h0 : MH} {d : Nat} {s : SM} {a1 : Int} {a2 : Int} {a3 : Int} {F : Int → SM → Prop} (H : cm iv L h0 d 125 [vr 307, vi a2] s (qi fun r2 s1 => ((r2 ≠ 0 → cm iv L h0 d 121 [vr 307, vi 7, vi a1, vi a2, vi a3, vi (-9)] s1 (qi fun r4 s3 => F r4 s3)) ∧ (r2 = 0 → cm iv L h0 d 125 [vr 307, vi a3] s1 (qi fun r6 s5 => ((r6 = 0 → (0 ≤ a2 ∧ a2 < 2600) ∧ ((s5.2 46 a2 ≠ 0 → cm iv L h0 d 124 [vr 307, vi 3, vi a1] s5 (qi fun r9 s8 => F r9 s8)) ∧ (s5.2 46 a2 = 0 → (0 ≤ a3 ∧ a3 < 2600) ∧ ((s5.2 46 a3 = 0 → (0 ≤ a1 ∧ a1 < 3004) ∧ ((s5.2 9 a1 ≠ 7 → ((s5.2 9 a1 ≠ 6 → ((s5.2 9 a1 ≠ 4 → ((s5.2 9 a1 ≠ 5 → ((s5.2 47 a3 ≠ (-1) → (s5.2 47 a3 ≠ 0) ∧ (-2147483648 ≤ (s5.2 47 a2).tdiv (s5.2 47 a3) ∧ (s5.2 47 a2).tdiv (s5.2 47 a3) ≤ 2147483647) ∧ cm iv L h0 d 121 [vr 307, vi 0, vi ((s5.2 47 a2).tdiv (s5.2 47 a3)), vi (-9), vi (-9), vi (-9)] s5 (qi fun r15 s14 => F r15 s14)) ∧ (s5.2 47 a3 = (-1) → cm iv L h0 d 121 [vr 307, vi 0, vi (w32 (-(s5.2 47 a2))), vi (-9), vi (-9), vi (-9)] s5 (qi fun r17 s16 => F r17 s16)))) ∧ (s5.2 9 a1 = 5 → cm iv L h0 d 121 [vr 307, vi 0, vi (w32 ((s5.2 47 a2) * (s5.2 47 a3))), vi (-9), vi (-9), vi (-9)] s5 (qi fun r19 s18 => F r19 s18)))) ∧ (s5.2 9 a1 = 4 → cm iv L h0 d 121 [vr 307, vi 0, vi (w32 ((s5.2 47 a2) + (s5.2 47 a3))), vi (-9), vi (-9), vi (-9)] s5 (qi fun r21 s20 => F r21 s20)))) ∧ (s5.2 9 a1 = 6 → ((s5.2 47 a3 ≠ 0 → ((s5.2 9 a1 ≠ 4 → ((s5.2 9 a1 ≠ 5 → ((s5.2 47 a3 ≠ (-1) → (s5.2 47 a3 ≠ 0) ∧ (-2147483648 ≤ (s5.2 47 a2).tdiv (s5.2 47 a3) ∧ (s5.2 47 a2).tdiv (s5.2 47 a3) ≤ 2147483647) ∧ cm iv L h0 d 121 [vr 307, vi 0, vi ((s5.2 47 a2).tdiv (s5.2 47 a3)), vi (-9), vi (-9), vi (-9)] s5 (qi fun r25 s24 => F r25 s24)) ∧ (s5.2 47 a3 = (-1) → cm iv L h0 d 121 [vr 307, vi 0, vi (w32 (-(s5.2 47 a2))), vi (-9), vi (-9), vi (-9)] s5 (qi fun r27 s26 => F r27 s26)))) ∧ (s5.2 9 a1 = 5 → cm iv L h0 d 121 [vr 307, vi 0, vi (w32 ((s5.2 47 a2) * (s5.2 47 a3))), vi (-9), vi (-9), vi (-9)] s5 (qi fun r29 s28 => F r29 s28)))) ∧ (s5.2 9 a1 = 4 → cm iv L h0 d 121 [vr 307, vi 0, vi (w32 ((s5.2 47 a2) + (s5.2 47 a3))), vi (-9), vi (-9), vi (-9)] s5 (qi fun r31 s30 => F r31 s30)))) ∧ (s5.2 47 a3 = 0 → cm iv L h0 d 124 [vr 307, vi 2, vi a1] s5 (qi fun r33 s32 => F r33 s32)))))) ∧ (s5.2 9 a1 = 7 → ((s5.2 47 a3 ≤ s5.2 47 a2 → cm iv L h0 d 121 [vr 307, vi 1, vi 0, vi (-9), vi (-9), vi (-9)] s5 (qi fun r35 s34 => F r35 s34)) ∧ (s5.2 47 a2 < s5.2 47 a3 → cm iv L h0 d 121 [vr 307, vi 1, vi 1, vi (-9), vi (-9), vi (-9)] s5 (qi fun r37 s36 => F r37 s36)))))) ∧ (s5.2 46 a3 ≠ 0 → cm iv L h0 d 124 [vr 307, vi 3, vi a1] s5 (qi fun r39 s38 => F r39 s38)))))) ∧ (r6 ≠ 0 → cm iv L h0 d 121 [vr 307, vi 7, vi a1, vi a2, vi a3, vi (-9)] s5 (qi fun r41 s40 => F r41 s40)))))))) : cm iv L h0 (d + 1) 129 [vr 307, vi a1, vi a2, vi a3] s (qi F) := by
  show wm iv L h0 (d + 1) 129 0 [lr 307, li a1, li a2, li a3] [] s (qi F)
  refine w_aload_n rfl rfl ?_
  refine w_iload_n rfl rfl ?_
  refine m_call (as := [vi a2]) (r := []) rfl rfl rfl rfl rfl rfl (wc_mono H (Nat.le_refl _) ?_)
  rintro _ s1 ⟨r2, rfl, H⟩
  show wm iv L h0 (d + 1) 129 5 [lr 307, li a1, li a2, li a3] [vi r2] s1 (qi F)
  refine w_if_ne rfl (fun h => ?_) (fun h => ?_)
  · replace H := H.1 h
    refine w_aload_n rfl rfl ?_
    refine w_bipush (n := 7) rfl rfl rfl ?_
    refine w_iload_n rfl rfl ?_
    refine w_iload_n rfl rfl ?_
    refine w_iload_n rfl rfl ?_
    refine w_bipush (n := (-9)) rfl rfl rfl ?_
    refine m_call (as := [vi 7, vi a1, vi a2, vi a3, vi (-9)]) (r := []) rfl rfl rfl rfl rfl rfl (wc_mono H (Nat.le_refl _) ?_)
    rintro _ s3 ⟨r4, rfl, H⟩
    show wm iv L h0 (d + 1) 129 27 [lr 307, li a1, li a2, li a3] [vi r4] s3 (qi F)
    exact w_iret rfl rfl ⟨_, rfl, H⟩
  · replace H := H.2 h
    refine w_aload_n rfl rfl ?_
    refine w_iload_n rfl rfl ?_
    refine m_call (as := [vi a3]) (r := []) rfl rfl rfl rfl rfl rfl (wc_mono H (Nat.le_refl _) ?_)
    rintro _ s5 ⟨r6, rfl, H⟩
    show wm iv L h0 (d + 1) 129 13 [lr 307, li a1, li a2, li a3] [vi r6] s5 (qi F)
    refine w_if_eq rfl (fun h => ?_) (fun h => ?_)
    · replace H := H.1 h
      refine w_aload_n rfl rfl ?_
      refine m_geta (t := 0) (k := 2600) rfl rfl ?_
      refine w_iload_n rfl rfl ?_
      obtain ⟨g7, H⟩ := H
      refine m_ald rfl (f := 46) (k := 2600) rfl g7 ?_
      refine w_if_ne rfl (fun h => ?_) (fun h => ?_)
      · replace H := H.1 h
        refine w_aload_n rfl rfl ?_
        refine w_iconst (n := 3) rfl rfl ?_
        refine w_iload_n rfl rfl ?_
        refine m_call (as := [vi 3, vi a1]) (r := []) rfl rfl rfl rfl rfl rfl (wc_mono H (Nat.le_refl _) ?_)
        rintro _ s8 ⟨r9, rfl, H⟩
        show wm iv L h0 (d + 1) 129 52 [lr 307, li a1, li a2, li a3] [vi r9] s8 (qi F)
        exact w_iret rfl rfl ⟨_, rfl, H⟩
      · replace H := H.2 h
        refine w_aload_n rfl rfl ?_
        refine m_geta (t := 0) (k := 2600) rfl rfl ?_
        refine w_iload_n rfl rfl ?_
        obtain ⟨g10, H⟩ := H
        refine m_ald rfl (f := 46) (k := 2600) rfl g10 ?_
        refine w_if_eq rfl (fun h => ?_) (fun h => ?_)
        · replace H := H.1 h
          refine w_aload_n rfl rfl ?_
          refine m_geta (t := 0) (k := 2600) rfl rfl ?_
          refine w_iload_n rfl rfl ?_
          refine m_ald rfl (f := 47) (k := 2600) rfl g7 ?_
          refine w_istore rfl rfl ?_
          refine w_aload_n rfl rfl ?_
          refine m_geta (t := 0) (k := 2600) rfl rfl ?_
          refine w_iload_n rfl rfl ?_
          refine m_ald rfl (f := 47) (k := 2600) rfl g10 ?_
          refine w_istore rfl rfl ?_
          refine w_aload_n rfl rfl ?_
          refine m_geta (t := 0) (k := 3004) rfl rfl ?_
          refine w_iload_n rfl rfl ?_
          obtain ⟨g11, H⟩ := H
          refine m_ald rfl (f := 9) (k := 3004) rfl g11 ?_
          refine w_bipush (n := 7) rfl rfl rfl ?_
          refine w_icmp_ne rfl (fun h => ?_) (fun h => ?_)
          · replace H := H.1 h
            refine w_aload_n rfl rfl ?_
            refine m_geta (t := 0) (k := 3004) rfl rfl ?_
            refine w_iload_n rfl rfl ?_
            refine m_ald rfl (f := 9) (k := 3004) rfl g11 ?_
            refine w_bipush (n := 6) rfl rfl rfl ?_
            refine w_icmp_ne rfl (fun h => ?_) (fun h => ?_)
            · replace H := H.1 h
              refine w_aload_n rfl rfl ?_
              refine m_geta (t := 0) (k := 3004) rfl rfl ?_
              refine w_iload_n rfl rfl ?_
              refine m_ald rfl (f := 9) (k := 3004) rfl g11 ?_
              refine w_iconst (n := 4) rfl rfl ?_
              refine w_icmp_ne rfl (fun h => ?_) (fun h => ?_)
              · replace H := H.1 h
                refine w_aload_n rfl rfl ?_
                refine m_geta (t := 0) (k := 3004) rfl rfl ?_
                refine w_iload_n rfl rfl ?_
                refine m_ald rfl (f := 9) (k := 3004) rfl g11 ?_
                refine w_iconst (n := 5) rfl rfl ?_
                refine w_icmp_ne rfl (fun h => ?_) (fun h => ?_)
                · replace H := H.1 h
                  refine w_iload rfl rfl ?_
                  refine w_iconst (n := (-1)) rfl rfl ?_
                  refine w_icmp_ne rfl (fun h => ?_) (fun h => ?_)
                  · replace H := H.1 h
                    refine w_iload rfl rfl ?_
                    refine w_iload rfl rfl ?_
                    obtain ⟨g12, H⟩ := H
                    obtain ⟨g13, H⟩ := H
                    refine w_idiv rfl g12 g13 ?_
                    refine w_istore rfl rfl ?_
                    refine w_aload_n rfl rfl ?_
                    refine w_iconst (n := 0) rfl rfl ?_
                    refine w_iload rfl rfl ?_
                    refine w_bipush (n := (-9)) rfl rfl rfl ?_
                    refine w_bipush (n := (-9)) rfl rfl rfl ?_
                    refine w_bipush (n := (-9)) rfl rfl rfl ?_
                    refine m_call (as := [vi 0, vi ((s5.2 47 a2).tdiv (s5.2 47 a3)), vi (-9), vi (-9), vi (-9)]) (r := []) rfl rfl rfl rfl rfl rfl (wc_mono H (Nat.le_refl _) ?_)
                    rintro _ s14 ⟨r15, rfl, H⟩
                    show wm iv L h0 (d + 1) 129 195 [lr 307, li a1, li a2, li a3, li (s5.2 47 a2), li (s5.2 47 a3), li ((s5.2 47 a2).tdiv (s5.2 47 a3))] [vi r15] s14 (qi F)
                    exact w_iret rfl rfl ⟨_, rfl, H⟩
                  · replace H := H.2 h
                    refine w_iload rfl rfl ?_
                    refine w_inegw rfl ?_
                    refine w_goto rfl ?_
                    refine w_istore rfl rfl ?_
                    refine w_aload_n rfl rfl ?_
                    refine w_iconst (n := 0) rfl rfl ?_
                    refine w_iload rfl rfl ?_
                    refine w_bipush (n := (-9)) rfl rfl rfl ?_
                    refine w_bipush (n := (-9)) rfl rfl rfl ?_
                    refine w_bipush (n := (-9)) rfl rfl rfl ?_
                    refine m_call (as := [vi 0, vi (w32 (-(s5.2 47 a2))), vi (-9), vi (-9), vi (-9)]) (r := []) rfl rfl rfl rfl rfl rfl (wc_mono H (Nat.le_refl _) ?_)
                    rintro _ s16 ⟨r17, rfl, H⟩
                    show wm iv L h0 (d + 1) 129 195 [lr 307, li a1, li a2, li a3, li (s5.2 47 a2), li (s5.2 47 a3), li (w32 (-(s5.2 47 a2)))] [vi r17] s16 (qi F)
                    exact w_iret rfl rfl ⟨_, rfl, H⟩
                · replace H := H.2 h
                  refine w_iload rfl rfl ?_
                  refine w_iload rfl rfl ?_
                  refine w_imulw rfl ?_
                  refine w_goto rfl ?_
                  refine w_istore rfl rfl ?_
                  refine w_aload_n rfl rfl ?_
                  refine w_iconst (n := 0) rfl rfl ?_
                  refine w_iload rfl rfl ?_
                  refine w_bipush (n := (-9)) rfl rfl rfl ?_
                  refine w_bipush (n := (-9)) rfl rfl rfl ?_
                  refine w_bipush (n := (-9)) rfl rfl rfl ?_
                  refine m_call (as := [vi 0, vi (w32 ((s5.2 47 a2) * (s5.2 47 a3))), vi (-9), vi (-9), vi (-9)]) (r := []) rfl rfl rfl rfl rfl rfl (wc_mono H (Nat.le_refl _) ?_)
                  rintro _ s18 ⟨r19, rfl, H⟩
                  show wm iv L h0 (d + 1) 129 195 [lr 307, li a1, li a2, li a3, li (s5.2 47 a2), li (s5.2 47 a3), li (w32 ((s5.2 47 a2) * (s5.2 47 a3)))] [vi r19] s18 (qi F)
                  exact w_iret rfl rfl ⟨_, rfl, H⟩
              · replace H := H.2 h
                refine w_iload rfl rfl ?_
                refine w_iload rfl rfl ?_
                refine w_iaddw rfl ?_
                refine w_goto rfl ?_
                refine w_istore rfl rfl ?_
                refine w_aload_n rfl rfl ?_
                refine w_iconst (n := 0) rfl rfl ?_
                refine w_iload rfl rfl ?_
                refine w_bipush (n := (-9)) rfl rfl rfl ?_
                refine w_bipush (n := (-9)) rfl rfl rfl ?_
                refine w_bipush (n := (-9)) rfl rfl rfl ?_
                refine m_call (as := [vi 0, vi (w32 ((s5.2 47 a2) + (s5.2 47 a3))), vi (-9), vi (-9), vi (-9)]) (r := []) rfl rfl rfl rfl rfl rfl (wc_mono H (Nat.le_refl _) ?_)
                rintro _ s20 ⟨r21, rfl, H⟩
                show wm iv L h0 (d + 1) 129 195 [lr 307, li a1, li a2, li a3, li (s5.2 47 a2), li (s5.2 47 a3), li (w32 ((s5.2 47 a2) + (s5.2 47 a3)))] [vi r21] s20 (qi F)
                exact w_iret rfl rfl ⟨_, rfl, H⟩
            · replace H := H.2 h
              refine w_iload rfl rfl ?_
              refine w_if_ne rfl (fun h => ?_) (fun h => ?_)
              · replace H := H.1 h
                refine w_aload_n rfl rfl ?_
                refine m_geta (t := 0) (k := 3004) rfl rfl ?_
                refine w_iload_n rfl rfl ?_
                refine m_ald rfl (f := 9) (k := 3004) rfl g11 ?_
                refine w_iconst (n := 4) rfl rfl ?_
                refine w_icmp_ne rfl (fun h => ?_) (fun h => ?_)
                · replace H := H.1 h
                  refine w_aload_n rfl rfl ?_
                  refine m_geta (t := 0) (k := 3004) rfl rfl ?_
                  refine w_iload_n rfl rfl ?_
                  refine m_ald rfl (f := 9) (k := 3004) rfl g11 ?_
                  refine w_iconst (n := 5) rfl rfl ?_
                  refine w_icmp_ne rfl (fun h => ?_) (fun h => ?_)
                  · replace H := H.1 h
                    refine w_iload rfl rfl ?_
                    refine w_iconst (n := (-1)) rfl rfl ?_
                    refine w_icmp_ne rfl (fun h => ?_) (fun h => ?_)
                    · replace H := H.1 h
                      refine w_iload rfl rfl ?_
                      refine w_iload rfl rfl ?_
                      obtain ⟨g22, H⟩ := H
                      obtain ⟨g23, H⟩ := H
                      refine w_idiv rfl g22 g23 ?_
                      refine w_istore rfl rfl ?_
                      refine w_aload_n rfl rfl ?_
                      refine w_iconst (n := 0) rfl rfl ?_
                      refine w_iload rfl rfl ?_
                      refine w_bipush (n := (-9)) rfl rfl rfl ?_
                      refine w_bipush (n := (-9)) rfl rfl rfl ?_
                      refine w_bipush (n := (-9)) rfl rfl rfl ?_
                      refine m_call (as := [vi 0, vi ((s5.2 47 a2).tdiv (s5.2 47 a3)), vi (-9), vi (-9), vi (-9)]) (r := []) rfl rfl rfl rfl rfl rfl (wc_mono H (Nat.le_refl _) ?_)
                      rintro _ s24 ⟨r25, rfl, H⟩
                      show wm iv L h0 (d + 1) 129 195 [lr 307, li a1, li a2, li a3, li (s5.2 47 a2), li (s5.2 47 a3), li ((s5.2 47 a2).tdiv (s5.2 47 a3))] [vi r25] s24 (qi F)
                      exact w_iret rfl rfl ⟨_, rfl, H⟩
                    · replace H := H.2 h
                      refine w_iload rfl rfl ?_
                      refine w_inegw rfl ?_
                      refine w_goto rfl ?_
                      refine w_istore rfl rfl ?_
                      refine w_aload_n rfl rfl ?_
                      refine w_iconst (n := 0) rfl rfl ?_
                      refine w_iload rfl rfl ?_
                      refine w_bipush (n := (-9)) rfl rfl rfl ?_
                      refine w_bipush (n := (-9)) rfl rfl rfl ?_
                      refine w_bipush (n := (-9)) rfl rfl rfl ?_
                      refine m_call (as := [vi 0, vi (w32 (-(s5.2 47 a2))), vi (-9), vi (-9), vi (-9)]) (r := []) rfl rfl rfl rfl rfl rfl (wc_mono H (Nat.le_refl _) ?_)
                      rintro _ s26 ⟨r27, rfl, H⟩
                      show wm iv L h0 (d + 1) 129 195 [lr 307, li a1, li a2, li a3, li (s5.2 47 a2), li (s5.2 47 a3), li (w32 (-(s5.2 47 a2)))] [vi r27] s26 (qi F)
                      exact w_iret rfl rfl ⟨_, rfl, H⟩
                  · replace H := H.2 h
                    refine w_iload rfl rfl ?_
                    refine w_iload rfl rfl ?_
                    refine w_imulw rfl ?_
                    refine w_goto rfl ?_
                    refine w_istore rfl rfl ?_
                    refine w_aload_n rfl rfl ?_
                    refine w_iconst (n := 0) rfl rfl ?_
                    refine w_iload rfl rfl ?_
                    refine w_bipush (n := (-9)) rfl rfl rfl ?_
                    refine w_bipush (n := (-9)) rfl rfl rfl ?_
                    refine w_bipush (n := (-9)) rfl rfl rfl ?_
                    refine m_call (as := [vi 0, vi (w32 ((s5.2 47 a2) * (s5.2 47 a3))), vi (-9), vi (-9), vi (-9)]) (r := []) rfl rfl rfl rfl rfl rfl (wc_mono H (Nat.le_refl _) ?_)
                    rintro _ s28 ⟨r29, rfl, H⟩
                    show wm iv L h0 (d + 1) 129 195 [lr 307, li a1, li a2, li a3, li (s5.2 47 a2), li (s5.2 47 a3), li (w32 ((s5.2 47 a2) * (s5.2 47 a3)))] [vi r29] s28 (qi F)
                    exact w_iret rfl rfl ⟨_, rfl, H⟩
                · replace H := H.2 h
                  refine w_iload rfl rfl ?_
                  refine w_iload rfl rfl ?_
                  refine w_iaddw rfl ?_
                  refine w_goto rfl ?_
                  refine w_istore rfl rfl ?_
                  refine w_aload_n rfl rfl ?_
                  refine w_iconst (n := 0) rfl rfl ?_
                  refine w_iload rfl rfl ?_
                  refine w_bipush (n := (-9)) rfl rfl rfl ?_
                  refine w_bipush (n := (-9)) rfl rfl rfl ?_
                  refine w_bipush (n := (-9)) rfl rfl rfl ?_
                  refine m_call (as := [vi 0, vi (w32 ((s5.2 47 a2) + (s5.2 47 a3))), vi (-9), vi (-9), vi (-9)]) (r := []) rfl rfl rfl rfl rfl rfl (wc_mono H (Nat.le_refl _) ?_)
                  rintro _ s30 ⟨r31, rfl, H⟩
                  show wm iv L h0 (d + 1) 129 195 [lr 307, li a1, li a2, li a3, li (s5.2 47 a2), li (s5.2 47 a3), li (w32 ((s5.2 47 a2) + (s5.2 47 a3)))] [vi r31] s30 (qi F)
                  exact w_iret rfl rfl ⟨_, rfl, H⟩
              · replace H := H.2 h
                refine w_aload_n rfl rfl ?_
                refine w_iconst (n := 2) rfl rfl ?_
                refine w_iload_n rfl rfl ?_
                refine m_call (as := [vi 2, vi a1]) (r := []) rfl rfl rfl rfl rfl rfl (wc_mono H (Nat.le_refl _) ?_)
                rintro _ s32 ⟨r33, rfl, H⟩
                show wm iv L h0 (d + 1) 129 126 [lr 307, li a1, li a2, li a3, li (s5.2 47 a2), li (s5.2 47 a3)] [vi r33] s32 (qi F)
                exact w_iret rfl rfl ⟨_, rfl, H⟩
          · replace H := H.2 h
            refine w_aload_n rfl rfl ?_
            refine w_iconst (n := 1) rfl rfl ?_
            refine w_iload rfl rfl ?_
            refine w_iload rfl rfl ?_
            refine w_icmp_ge rfl (fun h => ?_) (fun h => ?_)
            · replace H := H.1 h
              refine w_iconst (n := 0) rfl rfl ?_
              refine w_bipush (n := (-9)) rfl rfl rfl ?_
              refine w_bipush (n := (-9)) rfl rfl rfl ?_
              refine w_bipush (n := (-9)) rfl rfl rfl ?_
              refine m_call (as := [vi 1, vi 0, vi (-9), vi (-9), vi (-9)]) (r := []) rfl rfl rfl rfl rfl rfl (wc_mono H (Nat.le_refl _) ?_)
              rintro _ s34 ⟨r35, rfl, H⟩
              show wm iv L h0 (d + 1) 129 103 [lr 307, li a1, li a2, li a3, li (s5.2 47 a2), li (s5.2 47 a3)] [vi r35] s34 (qi F)
              exact w_iret rfl rfl ⟨_, rfl, H⟩
            · replace H := H.2 h
              refine w_iconst (n := 1) rfl rfl ?_
              refine w_goto rfl ?_
              refine w_bipush (n := (-9)) rfl rfl rfl ?_
              refine w_bipush (n := (-9)) rfl rfl rfl ?_
              refine w_bipush (n := (-9)) rfl rfl rfl ?_
              refine m_call (as := [vi 1, vi 1, vi (-9), vi (-9), vi (-9)]) (r := []) rfl rfl rfl rfl rfl rfl (wc_mono H (Nat.le_refl _) ?_)
              rintro _ s36 ⟨r37, rfl, H⟩
              show wm iv L h0 (d + 1) 129 103 [lr 307, li a1, li a2, li a3, li (s5.2 47 a2), li (s5.2 47 a3)] [vi r37] s36 (qi F)
              exact w_iret rfl rfl ⟨_, rfl, H⟩
        · replace H := H.2 h
          refine w_aload_n rfl rfl ?_
          refine w_iconst (n := 3) rfl rfl ?_
          refine w_iload_n rfl rfl ?_
          refine m_call (as := [vi 3, vi a1]) (r := []) rfl rfl rfl rfl rfl rfl (wc_mono H (Nat.le_refl _) ?_)
          rintro _ s38 ⟨r39, rfl, H⟩
          show wm iv L h0 (d + 1) 129 52 [lr 307, li a1, li a2, li a3] [vi r39] s38 (qi F)
          exact w_iret rfl rfl ⟨_, rfl, H⟩
    · replace H := H.2 h
      refine w_aload_n rfl rfl ?_
      refine w_bipush (n := 7) rfl rfl rfl ?_
      refine w_iload_n rfl rfl ?_
      refine w_iload_n rfl rfl ?_
      refine w_iload_n rfl rfl ?_
      refine w_bipush (n := (-9)) rfl rfl rfl ?_
      refine m_call (as := [vi 7, vi a1, vi a2, vi a3, vi (-9)]) (r := []) rfl rfl rfl rfl rfl rfl (wc_mono H (Nat.le_refl _) ?_)
      rintro _ s40 ⟨r41, rfl, H⟩
      show wm iv L h0 (d + 1) 129 27 [lr 307, li a1, li a2, li a3] [vi r41] s40 (qi F)
      exact w_iret rfl rfl ⟨_, rfl, H⟩

/-- HoleDeskModel.filling(I)I -/
theorem B130 {iv : List (Int × Int)} {L : Nat} {h0 : MH} {d : Nat} {s : SM} {a1 : Int} {F : Int → SM → Prop} (H : wm iv L h0 d 130 2 [lr 307, li a1, li a1] [] s (qi F)) : cm iv L h0 d 130 [vr 307, vi a1] s (qi F) := by
  show wm iv L h0 d 130 0 [lr 307, li a1] [] s (qi F)
  refine w_iload_n rfl rfl ?_
  refine w_istore_n rfl rfl ?_
  exact wp_ls (sl_s (sl_s (sl_s (sl_0)))) H

/-- HoleDeskModel.filling(I)I at 2 -/
theorem B130_2 {iv : List (Int × Int)} {L : Nat} {h0 : MH} {d : Nat} {s : SM} {l1 : Int} {l2 : Int} {F : Int → SM → Prop} (H : (0 ≤ l2 ∧ l2 < 3004) ∧ ((s.2 42 l2 ≤ 0 → ((l2 ≠ l1 → F l2 s) ∧ (l2 = l1 → F (-9) s))) ∧ (0 < s.2 42 l2 → (-2147483648 ≤ (s.2 42 l2) - 1 ∧ (s.2 42 l2) - 1 ≤ 2147483647) ∧ wm iv L h0 d 130 2 [lr 307, li l1, li ((s.2 42 l2) - 1)] [] s (qi F)))) : wm iv L h0 d 130 2 [lr 307, li l1, li l2] [] s (qi F) := by
  refine w_aload_n rfl rfl ?_
  refine m_geta (t := 0) (k := 3004) rfl rfl ?_
  refine w_iload_n rfl rfl ?_
  obtain ⟨g1, H⟩ := H
  refine m_ald rfl (f := 42) (k := 3004) rfl g1 ?_
  refine w_if_le rfl (fun h => ?_) (fun h => ?_)
  · replace H := H.1 h
    refine w_iload_n rfl rfl ?_
    refine w_iload_n rfl rfl ?_
    refine w_icmp_ne rfl (fun h => ?_) (fun h => ?_)
    · replace H := H.1 h
      refine w_iload_n rfl rfl ?_
      exact w_iret rfl rfl ⟨_, rfl, H⟩
    · replace H := H.2 h
      refine w_bipush (n := (-9)) rfl rfl rfl ?_
      refine w_goto rfl ?_
      exact w_iret rfl rfl ⟨_, rfl, H⟩
  · replace H := H.2 h
    refine w_aload_n rfl rfl ?_
    refine m_geta (t := 0) (k := 3004) rfl rfl ?_
    refine w_iload_n rfl rfl ?_
    refine m_ald rfl (f := 42) (k := 3004) rfl g1 ?_
    refine w_iconst (n := 1) rfl rfl ?_
    obtain ⟨g2, H⟩ := H
    refine w_isub rfl g2 ?_
    refine w_istore_n rfl rfl ?_
    refine w_goto rfl ?_
    exact wp_ls (sl_s (sl_s (sl_s (sl_0)))) H

/-- HoleDeskModel.envOn(I)I -/
theorem B131 {iv : List (Int × Int)} {L : Nat} {h0 : MH} {d : Nat} {s : SM} {a1 : Int} {F : Int → SM → Prop} (H : cm iv L h0 d 122 [vr 307, vi (-9)] s (qi fun r2 s1 => wm iv L h0 (d + 1) 131 9 [lr 307, li a1, li r2, li 0] [] s1 (qi F))) : cm iv L h0 (d + 1) 131 [vr 307, vi a1] s (qi F) := by
  show wm iv L h0 (d + 1) 131 0 [lr 307, li a1] [] s (qi F)
  refine w_aload_n rfl rfl ?_
  refine w_bipush (n := (-9)) rfl rfl rfl ?_
  refine m_call (as := [vi (-9)]) (r := []) rfl rfl rfl rfl rfl rfl (wc_mono H (Nat.le_refl _) ?_)
  rintro _ s1 ⟨r2, rfl, H⟩
  show wm iv L h0 (d + 1) 131 6 [lr 307, li a1] [vi r2] s1 (qi F)
  refine w_istore_n rfl rfl ?_
  refine w_iconst (n := 0) rfl rfl ?_
  refine w_istore_n rfl rfl ?_
  exact wp_ls (sl_s (sl_s (sl_s (sl_s (sl_0))))) H

/-- HoleDeskModel.envOn(I)I at 9 -/
theorem B131_9 {iv : List (Int × Int)} {L : Nat} {h0 : MH} {d : Nat} {s : SM} {l1 : Int} {l2 : Int} {l3 : Int} {F : Int → SM → Prop} (H : ((26 ≤ l3 → F l2 s) ∧ (l3 < 26 → ((s.1 59 ≠ 0 → F l2 s) ∧ (s.1 59 = 0 → (-2147483648 ≤ 26 * l2 ∧ 26 * l2 ≤ 2147483647) ∧ (-2147483648 ≤ (26 * l2) + l3 ∧ (26 * l2) + l3 ≤ 2147483647) ∧ (-2147483648 ≤ 26 * l1 ∧ 26 * l1 ≤ 2147483647) ∧ (-2147483648 ≤ (26 * l1) + l3 ∧ (26 * l1) + l3 ≤ 2147483647) ∧ (0 ≤ (26 * l1) + l3 ∧ (26 * l1) + l3 < 33280) ∧ ((s.2 53 ((26 * l1) + l3) ≠ (-9) → cm iv L h0 d 132 [vr 307, vi (s.2 53 ((26 * l1) + l3))] s (qi fun r7 s6 => (0 ≤ (26 * l2) + l3 ∧ (26 * l2) + l3 < 33280) ∧ (-2147483648 ≤ l3 + 1 ∧ l3 + 1 ≤ 2147483647) ∧ wm iv L h0 (d + 1) 131 9 [lr 307, li l1, li l2, li (l3 + 1)] [] (ua s6 53 ((26 * l2) + l3) r7) (qi F))) ∧ (s.2 53 ((26 * l1) + l3) = (-9) → (0 ≤ (26 * l2) + l3 ∧ (26 * l2) + l3 < 33280) ∧ (-2147483648 ≤ l3 + 1 ∧ l3 + 1 ≤ 2147483647) ∧ wm iv L h0 (d + 1) 131 9 [lr 307, li l1, li l2, li (l3 + 1)] [] (ua s 53 ((26 * l2) + l3) (-9)) (qi F)))))))) : wm iv L h0 (d + 1) 131 9 [lr 307, li l1, li l2, li l3] [] s (qi F) := by
  refine w_iload_n rfl rfl ?_
  refine w_bipush (n := 26) rfl rfl rfl ?_
  refine w_icmp_ge rfl (fun h => ?_) (fun h => ?_)
  · replace H := H.1 h
    refine w_iload_n rfl rfl ?_
    exact w_iret rfl rfl ⟨_, rfl, H⟩
  · replace H := H.2 h
    refine w_aload_n rfl rfl ?_
    refine m_get rfl rfl ?_
    refine w_if_ne rfl (fun h => ?_) (fun h => ?_)
    · replace H := H.1 h
      refine w_iload_n rfl rfl ?_
      exact w_iret rfl rfl ⟨_, rfl, H⟩
    · replace H := H.2 h
      refine w_aload_n rfl rfl ?_
      refine m_geta (t := 0) (k := 33280) rfl rfl ?_
      refine w_bipush (n := 26) rfl rfl rfl ?_
      refine w_iload_n rfl rfl ?_
      obtain ⟨g1, H⟩ := H
      refine w_imul rfl g1 ?_
      refine w_iload_n rfl rfl ?_
      obtain ⟨g2, H⟩ := H
      refine w_iadd rfl g2 ?_
      refine w_aload_n rfl rfl ?_
      refine m_geta (t := 0) (k := 33280) rfl rfl ?_
      refine w_bipush (n := 26) rfl rfl rfl ?_
      refine w_iload_n rfl rfl ?_
      obtain ⟨g3, H⟩ := H
      refine w_imul rfl g3 ?_
      refine w_iload_n rfl rfl ?_
      obtain ⟨g4, H⟩ := H
      refine w_iadd rfl g4 ?_
      obtain ⟨g5, H⟩ := H
      refine m_ald rfl (f := 53) (k := 33280) rfl g5 ?_
      refine w_bipush (n := (-9)) rfl rfl rfl ?_
      refine w_icmp_ne rfl (fun h => ?_) (fun h => ?_)
      · replace H := H.1 h
        refine w_aload_n rfl rfl ?_
        refine w_aload_n rfl rfl ?_
        refine m_geta (t := 0) (k := 33280) rfl rfl ?_
        refine w_bipush (n := 26) rfl rfl rfl ?_
        refine w_iload_n rfl rfl ?_
        refine w_imul rfl g3 ?_
        refine w_iload_n rfl rfl ?_
        refine w_iadd rfl g4 ?_
        refine m_ald rfl (f := 53) (k := 33280) rfl g5 ?_
        refine m_call (as := [vi (s.2 53 ((26 * l1) + l3))]) (r := [vi ((26 * l2) + l3), vr 346]) rfl rfl rfl rfl rfl rfl (wc_mono H (Nat.le_refl _) ?_)
        rintro _ s6 ⟨r7, rfl, H⟩
        show wm iv L h0 (d + 1) 131 68 [lr 307, li l1, li l2, li l3] [vi r7, vi ((26 * l2) + l3), vr 346] s6 (qi F)
        obtain ⟨g8, H⟩ := H
        refine m_ast rfl (f := 53) (k := 33280) rfl g8 ?_
        obtain ⟨g9, H⟩ := H
        refine w_iinc rfl rfl rfl g9 ?_
        refine w_goto rfl ?_
        exact wp_ls (sl_s (sl_s (sl_s (sl_s (sl_0))))) H
      · replace H := H.2 h
        refine w_bipush (n := (-9)) rfl rfl rfl ?_
        refine w_goto rfl ?_
        obtain ⟨g10, H⟩ := H
        refine m_ast rfl (f := 53) (k := 33280) rfl g10 ?_
        obtain ⟨g11, H⟩ := H
        refine w_iinc rfl rfl rfl g11 ?_
        refine w_goto rfl ?_
        exact wp_ls (sl_s (sl_s (sl_s (sl_s (sl_0))))) H

/-- HoleDeskModel.on(I)I -/
theorem B132 {iv : List (Int × Int)} {L : Nat} {h0 : MH} {d : Nat} {s : SM} {a1 : Int} {F : Int → SM → Prop} (H : cm iv L h0 d 123 [vr 307, vi (-9)] s (qi fun r2 s1 => ((r2 ≠ 0 → cm iv L h0 d 133 [vr 307, vi a1] s1 (qi fun r4 s3 => (-2147483648 ≤ (s3.1 58) - 1 ∧ (s3.1 58) - 1 ≤ 2147483647) ∧ ((s3.1 59 ≤ 0 → F r4 (us s3 58 ((s3.1 58) - 1))) ∧ (0 < s3.1 59 → F (-9) (us s3 58 ((s3.1 58) - 1)))))) ∧ (r2 = 0 → F (-9) s1)))) : cm iv L h0 (d + 1) 132 [vr 307, vi a1] s (qi F) := by
  show wm iv L h0 (d + 1) 132 0 [lr 307, li a1] [] s (qi F)
  refine w_aload_n rfl rfl ?_
  refine w_bipush (n := (-9)) rfl rfl rfl ?_
  refine m_call (as := [vi (-9)]) (r := []) rfl rfl rfl rfl rfl rfl (wc_mono H (Nat.le_refl _) ?_)
  rintro _ s1 ⟨r2, rfl, H⟩
  show wm iv L h0 (d + 1) 132 6 [lr 307, li a1] [vi r2] s1 (qi F)
  refine w_if_ne rfl (fun h => ?_) (fun h => ?_)
  · replace H := H.1 h
    refine w_aload_n rfl rfl ?_
    refine w_iload_n rfl rfl ?_
    refine m_call (as := [vi a1]) (r := []) rfl rfl rfl rfl rfl rfl (wc_mono H (Nat.le_refl _) ?_)
    rintro _ s3 ⟨r4, rfl, H⟩
    show wm iv L h0 (d + 1) 132 17 [lr 307, li a1] [vi r4] s3 (qi F)
    refine w_istore_n rfl rfl ?_
    refine w_aload_n rfl rfl ?_
    refine w_dup rfl rfl ?_
    refine m_get rfl rfl ?_
    refine w_iconst (n := 1) rfl rfl ?_
    obtain ⟨g5, H⟩ := H
    refine w_isub rfl g5 ?_
    refine m_put rfl rfl rfl ?_
    refine w_aload_n rfl rfl ?_
    refine m_get rfl rfl ?_
    show wm iv L h0 (d + 1) 132 32 [lr 307, li a1, li r4] [vi (s3.1 59)] (us s3 58 ((s3.1 58) - 1)) (qi F)
    refine w_if_le rfl (fun h => ?_) (fun h => ?_)
    · replace H := H.1 h
      refine w_iload_n rfl rfl ?_
      exact w_iret rfl rfl ⟨_, rfl, H⟩
    · replace H := H.2 h
      refine w_bipush (n := (-9)) rfl rfl rfl ?_
      refine w_goto rfl ?_
      exact w_iret rfl rfl ⟨_, rfl, H⟩
  · replace H := H.2 h
    refine w_bipush (n := (-9)) rfl rfl rfl ?_
    exact w_iret rfl rfl ⟨_, rfl, H⟩

/-- HoleDeskModel.onPlain(I)I -/
theorem B133 {iv : List (Int × Int)} {L : Nat} {h0 : MH} {d : Nat} {s : SM} {a1 : Int} {F : Int → SM → Prop} (H : (0 ≤ a1 ∧ a1 < 2600) ∧ ((s.2 46 a1 = 2 → cm iv L h0 d 131 [vr 307, vi (s.2 50 a1)] s (qi fun r3 s2 => cm iv L h0 d 121 [vr 307, vi 2, vi (s2.2 47 a1), vi (-9), vi (-9), vi r3] s2 (qi fun r5 s4 => F r5 s4))) ∧ (s.2 46 a1 = 3 → cm iv L h0 d 132 [vr 307, vi (s.2 48 a1)] s (qi fun r7 s6 => ((s6.1 59 ≤ 0 → cm iv L h0 d 132 [vr 307, vi (s6.2 49 a1)] s6 (qi fun r9 s8 => cm iv L h0 d 121 [vr 307, vi 3, vi (-9), vi r7, vi r9, vi (-9)] s8 (qi fun r11 s10 => F r11 s10))) ∧ (0 < s6.1 59 → cm iv L h0 d 121 [vr 307, vi 3, vi (-9), vi r7, vi (-9), vi (-9)] s6 (qi fun r13 s12 => F r13 s12))))) ∧ (s.2 46 a1 = 4 → cm iv L h0 d 131 [vr 307, vi (s.2 50 a1)] s (qi fun r15 s14 => cm iv L h0 d 130 [vr 307, vi (s14.2 47 a1)] s14 (qi fun r17 s16 => ((s16.1 59 ≤ 0 → ((r17 ≠ (-9) → cm iv L h0 d 126 [vr 307, vi r17, vi r15] s16 (qi fun r19 s18 => F r19 s18)) ∧ (r17 = (-9) → cm iv L h0 d 121 [vr 307, vi 4, vi (s16.2 47 a1), vi (-9), vi (-9), vi r15] s16 (qi fun r21 s20 => F r21 s20)))) ∧ (0 < s16.1 59 → F (-9) s16))))) ∧ (s.2 46 a1 = 5 ∨ s.2 46 a1 < 2 ∨ 7 < s.2 46 a1 → cm iv L h0 d 121 [vr 307, vi (s.2 46 a1), vi (s.2 47 a1), vi (-9), vi (-9), vi (-9)] s (qi fun r23 s22 => F r23 s22)) ∧ (s.2 46 a1 = 6 → cm iv L h0 d 132 [vr 307, vi (s.2 48 a1)] s (qi fun r25 s24 => cm iv L h0 d 121 [vr 307, vi 6, vi (-9), vi r25, vi (-9), vi (-9)] s24 (qi fun r27 s26 => F r27 s26))) ∧ (s.2 46 a1 = 7 → cm iv L h0 d 132 [vr 307, vi (s.2 48 a1)] s (qi fun r29 s28 => ((0 < s28.1 59 → ((0 < s28.1 59 → ((s28.1 59 ≤ 0 → cm iv L h0 d 128 [vr 307, vi (s28.2 47 a1), vi r29, vi (-9), vi (-9)] s28 (qi fun r31 s30 => F r31 s30)) ∧ (0 < s28.1 59 → F (-9) s28))) ∧ (s28.1 59 ≤ 0 → ((s28.2 50 a1 ≠ (-9) → cm iv L h0 d 131 [vr 307, vi (s28.2 50 a1)] s28 (qi fun r33 s32 => ((s32.1 59 ≤ 0 → cm iv L h0 d 128 [vr 307, vi (s32.2 47 a1), vi r29, vi (-9), vi r33] s32 (qi fun r35 s34 => F r35 s34)) ∧ (0 < s32.1 59 → F (-9) s32)))) ∧ (s28.2 50 a1 = (-9) → ((s28.1 59 ≤ 0 → cm iv L h0 d 128 [vr 307, vi (s28.2 47 a1), vi r29, vi (-9), vi (-9)] s28 (qi fun r37 s36 => F r37 s36)) ∧ (0 < s28.1 59 → F (-9) s28))))))) ∧ (s28.1 59 ≤ 0 → ((s28.2 49 a1 ≠ (-9) → cm iv L h0 d 132 [vr 307, vi (s28.2 49 a1)] s28 (qi fun r39 s38 => ((0 < s38.1 59 → ((s38.1 59 ≤ 0 → cm iv L h0 d 128 [vr 307, vi (s38.2 47 a1), vi r29, vi r39, vi (-9)] s38 (qi fun r41 s40 => F r41 s40)) ∧ (0 < s38.1 59 → F (-9) s38))) ∧ (s38.1 59 ≤ 0 → ((s38.2 50 a1 ≠ (-9) → cm iv L h0 d 131 [vr 307, vi (s38.2 50 a1)] s38 (qi fun r43 s42 => ((s42.1 59 ≤ 0 → cm iv L h0 d 128 [vr 307, vi (s42.2 47 a1), vi r29, vi r39, vi r43] s42 (qi fun r45 s44 => F r45 s44)) ∧ (0 < s42.1 59 → F (-9) s42)))) ∧ (s38.2 50 a1 = (-9) → ((s38.1 59 ≤ 0 → cm iv L h0 d 128 [vr 307, vi (s38.2 47 a1), vi r29, vi r39, vi (-9)] s38 (qi fun r47 s46 => F r47 s46)) ∧ (0 < s38.1 59 → F (-9) s38)))))))) ∧ (s28.2 49 a1 = (-9) → ((0 < s28.1 59 → ((s28.1 59 ≤ 0 → cm iv L h0 d 128 [vr 307, vi (s28.2 47 a1), vi r29, vi (-9), vi (-9)] s28 (qi fun r49 s48 => F r49 s48)) ∧ (0 < s28.1 59 → F (-9) s28))) ∧ (s28.1 59 ≤ 0 → ((s28.2 50 a1 ≠ (-9) → cm iv L h0 d 131 [vr 307, vi (s28.2 50 a1)] s28 (qi fun r51 s50 => ((s50.1 59 ≤ 0 → cm iv L h0 d 128 [vr 307, vi (s50.2 47 a1), vi r29, vi (-9), vi r51] s50 (qi fun r53 s52 => F r53 s52)) ∧ (0 < s50.1 59 → F (-9) s50)))) ∧ (s28.2 50 a1 = (-9) → ((s28.1 59 ≤ 0 → cm iv L h0 d 128 [vr 307, vi (s28.2 47 a1), vi r29, vi (-9), vi (-9)] s28 (qi fun r55 s54 => F r55 s54)) ∧ (0 < s28.1 59 → F (-9) s28)))))))))))))) : cm iv L h0 (d + 1) 133 [vr 307, vi a1] s (qi F) := by
  show wm iv L h0 (d + 1) 133 0 [lr 307, li a1] [] s (qi F)
  refine w_aload_n rfl rfl ?_
  refine m_geta (t := 0) (k := 2600) rfl rfl ?_
  refine w_iload_n rfl rfl ?_
  obtain ⟨g1, H⟩ := H
  refine m_ald rfl (f := 46) (k := 2600) rfl g1 ?_
  have J44 : (s.2 46 a1 = 2) → wm iv L h0 (d + 1) 133 44 [lr 307, li a1] [] s (qi F) := fun h => by
    replace H := H.1 h
    refine w_aload_n rfl rfl ?_
    refine w_aload_n rfl rfl ?_
    refine m_geta (t := 0) (k := 2600) rfl rfl ?_
    refine w_iload_n rfl rfl ?_
    refine m_ald rfl (f := 50) (k := 2600) rfl g1 ?_
    refine m_call (as := [vi (s.2 50 a1)]) (r := []) rfl rfl rfl rfl rfl rfl (wc_mono H (Nat.le_refl _) ?_)
    rintro _ s2 ⟨r3, rfl, H⟩
    show wm iv L h0 (d + 1) 133 54 [lr 307, li a1] [vi r3] s2 (qi F)
    refine w_istore_n rfl rfl ?_
    refine w_aload_n rfl rfl ?_
    refine w_iconst (n := 2) rfl rfl ?_
    refine w_aload_n rfl rfl ?_
    refine m_geta (t := 0) (k := 2600) rfl rfl ?_
    refine w_iload_n rfl rfl ?_
    refine m_ald rfl (f := 47) (k := 2600) rfl g1 ?_
    refine w_bipush (n := (-9)) rfl rfl rfl ?_
    refine w_bipush (n := (-9)) rfl rfl rfl ?_
    refine w_iload_n rfl rfl ?_
    refine m_call (as := [vi 2, vi (s2.2 47 a1), vi (-9), vi (-9), vi r3]) (r := []) rfl rfl rfl rfl rfl rfl (wc_mono H (Nat.le_refl _) ?_)
    rintro _ s4 ⟨r5, rfl, H⟩
    show wm iv L h0 (d + 1) 133 71 [lr 307, li a1, li r3] [vi r5] s4 (qi F)
    exact w_iret rfl rfl ⟨_, rfl, H⟩
  have J72 : (s.2 46 a1 = 3) → wm iv L h0 (d + 1) 133 72 [lr 307, li a1] [] s (qi F) := fun h => by
    replace H := H.2.1 h
    refine w_aload_n rfl rfl ?_
    refine w_aload_n rfl rfl ?_
    refine m_geta (t := 0) (k := 2600) rfl rfl ?_
    refine w_iload_n rfl rfl ?_
    refine m_ald rfl (f := 48) (k := 2600) rfl g1 ?_
    refine m_call (as := [vi (s.2 48 a1)]) (r := []) rfl rfl rfl rfl rfl rfl (wc_mono H (Nat.le_refl _) ?_)
    rintro _ s6 ⟨r7, rfl, H⟩
    show wm iv L h0 (d + 1) 133 82 [lr 307, li a1] [vi r7] s6 (qi F)
    refine w_istore_n rfl rfl ?_
    refine w_aload_n rfl rfl ?_
    refine m_get rfl rfl ?_
    refine w_if_le rfl (fun h => ?_) (fun h => ?_)
    · replace H := H.1 h
      refine w_aload_n rfl rfl ?_
      refine w_aload_n rfl rfl ?_
      refine m_geta (t := 0) (k := 2600) rfl rfl ?_
      refine w_iload_n rfl rfl ?_
      refine m_ald rfl (f := 49) (k := 2600) rfl g1 ?_
      refine m_call (as := [vi (s6.2 49 a1)]) (r := []) rfl rfl rfl rfl rfl rfl (wc_mono H (Nat.le_refl _) ?_)
      rintro _ s8 ⟨r9, rfl, H⟩
      show wm iv L h0 (d + 1) 133 105 [lr 307, li a1, li r7] [vi r9] s8 (qi F)
      refine w_istore_n rfl rfl ?_
      refine w_aload_n rfl rfl ?_
      refine w_iconst (n := 3) rfl rfl ?_
      refine w_bipush (n := (-9)) rfl rfl rfl ?_
      refine w_iload_n rfl rfl ?_
      refine w_iload_n rfl rfl ?_
      refine w_bipush (n := (-9)) rfl rfl rfl ?_
      refine m_call (as := [vi 3, vi (-9), vi r7, vi r9, vi (-9)]) (r := []) rfl rfl rfl rfl rfl rfl (wc_mono H (Nat.le_refl _) ?_)
      rintro _ s10 ⟨r11, rfl, H⟩
      show wm iv L h0 (d + 1) 133 117 [lr 307, li a1, li r7, li r9] [vi r11] s10 (qi F)
      exact w_iret rfl rfl ⟨_, rfl, H⟩
    · replace H := H.2 h
      refine w_bipush (n := (-9)) rfl rfl rfl ?_
      refine w_goto rfl ?_
      refine w_istore_n rfl rfl ?_
      refine w_aload_n rfl rfl ?_
      refine w_iconst (n := 3) rfl rfl ?_
      refine w_bipush (n := (-9)) rfl rfl rfl ?_
      refine w_iload_n rfl rfl ?_
      refine w_iload_n rfl rfl ?_
      refine w_bipush (n := (-9)) rfl rfl rfl ?_
      refine m_call (as := [vi 3, vi (-9), vi r7, vi (-9), vi (-9)]) (r := []) rfl rfl rfl rfl rfl rfl (wc_mono H (Nat.le_refl _) ?_)
      rintro _ s12 ⟨r13, rfl, H⟩
      show wm iv L h0 (d + 1) 133 117 [lr 307, li a1, li r7, li (-9)] [vi r13] s12 (qi F)
      exact w_iret rfl rfl ⟨_, rfl, H⟩
  have J118 : (s.2 46 a1 = 4) → wm iv L h0 (d + 1) 133 118 [lr 307, li a1] [] s (qi F) := fun h => by
    replace H := H.2.2.1 h
    refine w_aload_n rfl rfl ?_
    refine w_aload_n rfl rfl ?_
    refine m_geta (t := 0) (k := 2600) rfl rfl ?_
    refine w_iload_n rfl rfl ?_
    refine m_ald rfl (f := 50) (k := 2600) rfl g1 ?_
    refine m_call (as := [vi (s.2 50 a1)]) (r := []) rfl rfl rfl rfl rfl rfl (wc_mono H (Nat.le_refl _) ?_)
    rintro _ s14 ⟨r15, rfl, H⟩
    show wm iv L h0 (d + 1) 133 128 [lr 307, li a1] [vi r15] s14 (qi F)
    refine w_istore_n rfl rfl ?_
    refine w_aload_n rfl rfl ?_
    refine w_aload_n rfl rfl ?_
    refine m_geta (t := 0) (k := 2600) rfl rfl ?_
    refine w_iload_n rfl rfl ?_
    refine m_ald rfl (f := 47) (k := 2600) rfl g1 ?_
    refine m_call (as := [vi (s14.2 47 a1)]) (r := []) rfl rfl rfl rfl rfl rfl (wc_mono H (Nat.le_refl _) ?_)
    rintro _ s16 ⟨r17, rfl, H⟩
    show wm iv L h0 (d + 1) 133 139 [lr 307, li a1, li r15] [vi r17] s16 (qi F)
    refine w_istore_n rfl rfl ?_
    refine w_aload_n rfl rfl ?_
    refine m_get rfl rfl ?_
    refine w_if_le rfl (fun h => ?_) (fun h => ?_)
    · replace H := H.1 h
      refine w_iload_n rfl rfl ?_
      refine w_bipush (n := (-9)) rfl rfl rfl ?_
      refine w_icmp_ne rfl (fun h => ?_) (fun h => ?_)
      · replace H := H.1 h
        refine w_aload_n rfl rfl ?_
        refine w_iload_n rfl rfl ?_
        refine w_iload_n rfl rfl ?_
        refine m_call (as := [vi r17, vi r15]) (r := []) rfl rfl rfl rfl rfl rfl (wc_mono H (Nat.le_refl _) ?_)
        rintro _ s18 ⟨r19, rfl, H⟩
        show wm iv L h0 (d + 1) 133 183 [lr 307, li a1, li r15, li r17] [vi r19] s18 (qi F)
        exact w_iret rfl rfl ⟨_, rfl, H⟩
      · replace H := H.2 h
        refine w_aload_n rfl rfl ?_
        refine w_iconst (n := 4) rfl rfl ?_
        refine w_aload_n rfl rfl ?_
        refine m_geta (t := 0) (k := 2600) rfl rfl ?_
        refine w_iload_n rfl rfl ?_
        refine m_ald rfl (f := 47) (k := 2600) rfl g1 ?_
        refine w_bipush (n := (-9)) rfl rfl rfl ?_
        refine w_bipush (n := (-9)) rfl rfl rfl ?_
        refine w_iload_n rfl rfl ?_
        refine m_call (as := [vi 4, vi (s16.2 47 a1), vi (-9), vi (-9), vi r15]) (r := []) rfl rfl rfl rfl rfl rfl (wc_mono H (Nat.le_refl _) ?_)
        rintro _ s20 ⟨r21, rfl, H⟩
        show wm iv L h0 (d + 1) 133 174 [lr 307, li a1, li r15, li r17] [vi r21] s20 (qi F)
        refine w_goto rfl ?_
        exact w_iret rfl rfl ⟨_, rfl, H⟩
    · replace H := H.2 h
      refine w_bipush (n := (-9)) rfl rfl rfl ?_
      refine w_goto rfl ?_
      exact w_iret rfl rfl ⟨_, rfl, H⟩
  have J316 : (s.2 46 a1 = 5 ∨ s.2 46 a1 < 2 ∨ 7 < s.2 46 a1) → wm iv L h0 (d + 1) 133 316 [lr 307, li a1] [] s (qi F) := fun h => by
    replace H := H.2.2.2.1 h
    refine w_aload_n rfl rfl ?_
    refine w_aload_n rfl rfl ?_
    refine m_geta (t := 0) (k := 2600) rfl rfl ?_
    refine w_iload_n rfl rfl ?_
    refine m_ald rfl (f := 46) (k := 2600) rfl g1 ?_
    refine w_aload_n rfl rfl ?_
    refine m_geta (t := 0) (k := 2600) rfl rfl ?_
    refine w_iload_n rfl rfl ?_
    refine m_ald rfl (f := 47) (k := 2600) rfl g1 ?_
    refine w_bipush (n := (-9)) rfl rfl rfl ?_
    refine w_bipush (n := (-9)) rfl rfl rfl ?_
    refine w_bipush (n := (-9)) rfl rfl rfl ?_
    refine m_call (as := [vi (s.2 46 a1), vi (s.2 47 a1), vi (-9), vi (-9), vi (-9)]) (r := []) rfl rfl rfl rfl rfl rfl (wc_mono H (Nat.le_refl _) ?_)
    rintro _ s22 ⟨r23, rfl, H⟩
    show wm iv L h0 (d + 1) 133 338 [lr 307, li a1] [vi r23] s22 (qi F)
    exact w_iret rfl rfl ⟨_, rfl, H⟩
  have J184 : (s.2 46 a1 = 6) → wm iv L h0 (d + 1) 133 184 [lr 307, li a1] [] s (qi F) := fun h => by
    replace H := H.2.2.2.2.1 h
    refine w_aload_n rfl rfl ?_
    refine w_aload_n rfl rfl ?_
    refine m_geta (t := 0) (k := 2600) rfl rfl ?_
    refine w_iload_n rfl rfl ?_
    refine m_ald rfl (f := 48) (k := 2600) rfl g1 ?_
    refine m_call (as := [vi (s.2 48 a1)]) (r := []) rfl rfl rfl rfl rfl rfl (wc_mono H (Nat.le_refl _) ?_)
    rintro _ s24 ⟨r25, rfl, H⟩
    show wm iv L h0 (d + 1) 133 194 [lr 307, li a1] [vi r25] s24 (qi F)
    refine w_istore_n rfl rfl ?_
    refine w_aload_n rfl rfl ?_
    refine w_bipush (n := 6) rfl rfl rfl ?_
    refine w_bipush (n := (-9)) rfl rfl rfl ?_
    refine w_iload_n rfl rfl ?_
    refine w_bipush (n := (-9)) rfl rfl rfl ?_
    refine w_bipush (n := (-9)) rfl rfl rfl ?_
    refine m_call (as := [vi 6, vi (-9), vi r25, vi (-9), vi (-9)]) (r := []) rfl rfl rfl rfl rfl rfl (wc_mono H (Nat.le_refl _) ?_)
    rintro _ s26 ⟨r27, rfl, H⟩
    show wm iv L h0 (d + 1) 133 208 [lr 307, li a1, li r25] [vi r27] s26 (qi F)
    exact w_iret rfl rfl ⟨_, rfl, H⟩
  have J209 : (s.2 46 a1 = 7) → wm iv L h0 (d + 1) 133 209 [lr 307, li a1] [] s (qi F) := fun h => by
    replace H := H.2.2.2.2.2 h
    refine w_aload_n rfl rfl ?_
    refine w_aload_n rfl rfl ?_
    refine m_geta (t := 0) (k := 2600) rfl rfl ?_
    refine w_iload_n rfl rfl ?_
    refine m_ald rfl (f := 48) (k := 2600) rfl g1 ?_
    refine m_call (as := [vi (s.2 48 a1)]) (r := []) rfl rfl rfl rfl rfl rfl (wc_mono H (Nat.le_refl _) ?_)
    rintro _ s28 ⟨r29, rfl, H⟩
    show wm iv L h0 (d + 1) 133 219 [lr 307, li a1] [vi r29] s28 (qi F)
    refine w_istore_n rfl rfl ?_
    refine w_aload_n rfl rfl ?_
    refine m_get rfl rfl ?_
    refine w_if_gt rfl (fun h => ?_) (fun h => ?_)
    · replace H := H.1 h
      refine w_bipush (n := (-9)) rfl rfl rfl ?_
      refine w_goto rfl ?_
      refine w_istore_n rfl rfl ?_
      refine w_aload_n rfl rfl ?_
      refine m_get rfl rfl ?_
      refine w_if_gt rfl (fun h => ?_) (fun h => ?_)
      · replace H := H.1 h
        refine w_bipush (n := (-9)) rfl rfl rfl ?_
        refine w_goto rfl ?_
        refine w_istore rfl rfl ?_
        refine w_aload_n rfl rfl ?_
        refine m_get rfl rfl ?_
        refine w_if_le rfl (fun h => ?_) (fun h => ?_)
        · replace H := H.1 h
          refine w_aload_n rfl rfl ?_
          refine w_aload_n rfl rfl ?_
          refine m_geta (t := 0) (k := 2600) rfl rfl ?_
          refine w_iload_n rfl rfl ?_
          refine m_ald rfl (f := 47) (k := 2600) rfl g1 ?_
          refine w_iload_n rfl rfl ?_
          refine w_iload_n rfl rfl ?_
          refine w_iload rfl rfl ?_
          refine m_call (as := [vi (s28.2 47 a1), vi r29, vi (-9), vi (-9)]) (r := []) rfl rfl rfl rfl rfl rfl (wc_mono H (Nat.le_refl _) ?_)
          rintro _ s30 ⟨r31, rfl, H⟩
          show wm iv L h0 (d + 1) 133 315 [lr 307, li a1, li r29, li (-9), li (-9)] [vi r31] s30 (qi F)
          exact w_iret rfl rfl ⟨_, rfl, H⟩
        · replace H := H.2 h
          refine w_bipush (n := (-9)) rfl rfl rfl ?_
          refine w_goto rfl ?_
          exact w_iret rfl rfl ⟨_, rfl, H⟩
      · replace H := H.2 h
        refine w_aload_n rfl rfl ?_
        refine m_geta (t := 0) (k := 2600) rfl rfl ?_
        refine w_iload_n rfl rfl ?_
        refine m_ald rfl (f := 50) (k := 2600) rfl g1 ?_
        refine w_bipush (n := (-9)) rfl rfl rfl ?_
        refine w_icmp_ne rfl (fun h => ?_) (fun h => ?_)
        · replace H := H.1 h
          refine w_aload_n rfl rfl ?_
          refine w_aload_n rfl rfl ?_
          refine m_geta (t := 0) (k := 2600) rfl rfl ?_
          refine w_iload_n rfl rfl ?_
          refine m_ald rfl (f := 50) (k := 2600) rfl g1 ?_
          refine m_call (as := [vi (s28.2 50 a1)]) (r := []) rfl rfl rfl rfl rfl rfl (wc_mono H (Nat.le_refl _) ?_)
          rintro _ s32 ⟨r33, rfl, H⟩
          show wm iv L h0 (d + 1) 133 287 [lr 307, li a1, li r29, li (-9)] [vi r33] s32 (qi F)
          refine w_istore rfl rfl ?_
          refine w_aload_n rfl rfl ?_
          refine m_get rfl rfl ?_
          refine w_if_le rfl (fun h => ?_) (fun h => ?_)
          · replace H := H.1 h
            refine w_aload_n rfl rfl ?_
            refine w_aload_n rfl rfl ?_
            refine m_geta (t := 0) (k := 2600) rfl rfl ?_
            refine w_iload_n rfl rfl ?_
            refine m_ald rfl (f := 47) (k := 2600) rfl g1 ?_
            refine w_iload_n rfl rfl ?_
            refine w_iload_n rfl rfl ?_
            refine w_iload rfl rfl ?_
            refine m_call (as := [vi (s32.2 47 a1), vi r29, vi (-9), vi r33]) (r := []) rfl rfl rfl rfl rfl rfl (wc_mono H (Nat.le_refl _) ?_)
            rintro _ s34 ⟨r35, rfl, H⟩
            show wm iv L h0 (d + 1) 133 315 [lr 307, li a1, li r29, li (-9), li r33] [vi r35] s34 (qi F)
            exact w_iret rfl rfl ⟨_, rfl, H⟩
          · replace H := H.2 h
            refine w_bipush (n := (-9)) rfl rfl rfl ?_
            refine w_goto rfl ?_
            exact w_iret rfl rfl ⟨_, rfl, H⟩
        · replace H := H.2 h
          refine w_bipush (n := (-9)) rfl rfl rfl ?_
          refine w_goto rfl ?_
          refine w_istore rfl rfl ?_
          refine w_aload_n rfl rfl ?_
          refine m_get rfl rfl ?_
          refine w_if_le rfl (fun h => ?_) (fun h => ?_)
          · replace H := H.1 h
            refine w_aload_n rfl rfl ?_
            refine w_aload_n rfl rfl ?_
            refine m_geta (t := 0) (k := 2600) rfl rfl ?_
            refine w_iload_n rfl rfl ?_
            refine m_ald rfl (f := 47) (k := 2600) rfl g1 ?_
            refine w_iload_n rfl rfl ?_
            refine w_iload_n rfl rfl ?_
            refine w_iload rfl rfl ?_
            refine m_call (as := [vi (s28.2 47 a1), vi r29, vi (-9), vi (-9)]) (r := []) rfl rfl rfl rfl rfl rfl (wc_mono H (Nat.le_refl _) ?_)
            rintro _ s36 ⟨r37, rfl, H⟩
            show wm iv L h0 (d + 1) 133 315 [lr 307, li a1, li r29, li (-9), li (-9)] [vi r37] s36 (qi F)
            exact w_iret rfl rfl ⟨_, rfl, H⟩
          · replace H := H.2 h
            refine w_bipush (n := (-9)) rfl rfl rfl ?_
            refine w_goto rfl ?_
            exact w_iret rfl rfl ⟨_, rfl, H⟩
    · replace H := H.2 h
      refine w_aload_n rfl rfl ?_
      refine m_geta (t := 0) (k := 2600) rfl rfl ?_
      refine w_iload_n rfl rfl ?_
      refine m_ald rfl (f := 49) (k := 2600) rfl g1 ?_
      refine w_bipush (n := (-9)) rfl rfl rfl ?_
      refine w_icmp_ne rfl (fun h => ?_) (fun h => ?_)
      · replace H := H.1 h
        refine w_aload_n rfl rfl ?_
        refine w_aload_n rfl rfl ?_
        refine m_geta (t := 0) (k := 2600) rfl rfl ?_
        refine w_iload_n rfl rfl ?_
        refine m_ald rfl (f := 49) (k := 2600) rfl g1 ?_
        refine m_call (as := [vi (s28.2 49 a1)]) (r := []) rfl rfl rfl rfl rfl rfl (wc_mono H (Nat.le_refl _) ?_)
        rintro _ s38 ⟨r39, rfl, H⟩
        show wm iv L h0 (d + 1) 133 253 [lr 307, li a1, li r29] [vi r39] s38 (qi F)
        refine w_istore_n rfl rfl ?_
        refine w_aload_n rfl rfl ?_
        refine m_get rfl rfl ?_
        refine w_if_gt rfl (fun h => ?_) (fun h => ?_)
        · replace H := H.1 h
          refine w_bipush (n := (-9)) rfl rfl rfl ?_
          refine w_goto rfl ?_
          refine w_istore rfl rfl ?_
          refine w_aload_n rfl rfl ?_
          refine m_get rfl rfl ?_
          refine w_if_le rfl (fun h => ?_) (fun h => ?_)
          · replace H := H.1 h
            refine w_aload_n rfl rfl ?_
            refine w_aload_n rfl rfl ?_
            refine m_geta (t := 0) (k := 2600) rfl rfl ?_
            refine w_iload_n rfl rfl ?_
            refine m_ald rfl (f := 47) (k := 2600) rfl g1 ?_
            refine w_iload_n rfl rfl ?_
            refine w_iload_n rfl rfl ?_
            refine w_iload rfl rfl ?_
            refine m_call (as := [vi (s38.2 47 a1), vi r29, vi r39, vi (-9)]) (r := []) rfl rfl rfl rfl rfl rfl (wc_mono H (Nat.le_refl _) ?_)
            rintro _ s40 ⟨r41, rfl, H⟩
            show wm iv L h0 (d + 1) 133 315 [lr 307, li a1, li r29, li r39, li (-9)] [vi r41] s40 (qi F)
            exact w_iret rfl rfl ⟨_, rfl, H⟩
          · replace H := H.2 h
            refine w_bipush (n := (-9)) rfl rfl rfl ?_
            refine w_goto rfl ?_
            exact w_iret rfl rfl ⟨_, rfl, H⟩
        · replace H := H.2 h
          refine w_aload_n rfl rfl ?_
          refine m_geta (t := 0) (k := 2600) rfl rfl ?_
          refine w_iload_n rfl rfl ?_
          refine m_ald rfl (f := 50) (k := 2600) rfl g1 ?_
          refine w_bipush (n := (-9)) rfl rfl rfl ?_
          refine w_icmp_ne rfl (fun h => ?_) (fun h => ?_)
          · replace H := H.1 h
            refine w_aload_n rfl rfl ?_
            refine w_aload_n rfl rfl ?_
            refine m_geta (t := 0) (k := 2600) rfl rfl ?_
            refine w_iload_n rfl rfl ?_
            refine m_ald rfl (f := 50) (k := 2600) rfl g1 ?_
            refine m_call (as := [vi (s38.2 50 a1)]) (r := []) rfl rfl rfl rfl rfl rfl (wc_mono H (Nat.le_refl _) ?_)
            rintro _ s42 ⟨r43, rfl, H⟩
            show wm iv L h0 (d + 1) 133 287 [lr 307, li a1, li r29, li r39] [vi r43] s42 (qi F)
            refine w_istore rfl rfl ?_
            refine w_aload_n rfl rfl ?_
            refine m_get rfl rfl ?_
            refine w_if_le rfl (fun h => ?_) (fun h => ?_)
            · replace H := H.1 h
              refine w_aload_n rfl rfl ?_
              refine w_aload_n rfl rfl ?_
              refine m_geta (t := 0) (k := 2600) rfl rfl ?_
              refine w_iload_n rfl rfl ?_
              refine m_ald rfl (f := 47) (k := 2600) rfl g1 ?_
              refine w_iload_n rfl rfl ?_
              refine w_iload_n rfl rfl ?_
              refine w_iload rfl rfl ?_
              refine m_call (as := [vi (s42.2 47 a1), vi r29, vi r39, vi r43]) (r := []) rfl rfl rfl rfl rfl rfl (wc_mono H (Nat.le_refl _) ?_)
              rintro _ s44 ⟨r45, rfl, H⟩
              show wm iv L h0 (d + 1) 133 315 [lr 307, li a1, li r29, li r39, li r43] [vi r45] s44 (qi F)
              exact w_iret rfl rfl ⟨_, rfl, H⟩
            · replace H := H.2 h
              refine w_bipush (n := (-9)) rfl rfl rfl ?_
              refine w_goto rfl ?_
              exact w_iret rfl rfl ⟨_, rfl, H⟩
          · replace H := H.2 h
            refine w_bipush (n := (-9)) rfl rfl rfl ?_
            refine w_goto rfl ?_
            refine w_istore rfl rfl ?_
            refine w_aload_n rfl rfl ?_
            refine m_get rfl rfl ?_
            refine w_if_le rfl (fun h => ?_) (fun h => ?_)
            · replace H := H.1 h
              refine w_aload_n rfl rfl ?_
              refine w_aload_n rfl rfl ?_
              refine m_geta (t := 0) (k := 2600) rfl rfl ?_
              refine w_iload_n rfl rfl ?_
              refine m_ald rfl (f := 47) (k := 2600) rfl g1 ?_
              refine w_iload_n rfl rfl ?_
              refine w_iload_n rfl rfl ?_
              refine w_iload rfl rfl ?_
              refine m_call (as := [vi (s38.2 47 a1), vi r29, vi r39, vi (-9)]) (r := []) rfl rfl rfl rfl rfl rfl (wc_mono H (Nat.le_refl _) ?_)
              rintro _ s46 ⟨r47, rfl, H⟩
              show wm iv L h0 (d + 1) 133 315 [lr 307, li a1, li r29, li r39, li (-9)] [vi r47] s46 (qi F)
              exact w_iret rfl rfl ⟨_, rfl, H⟩
            · replace H := H.2 h
              refine w_bipush (n := (-9)) rfl rfl rfl ?_
              refine w_goto rfl ?_
              exact w_iret rfl rfl ⟨_, rfl, H⟩
      · replace H := H.2 h
        refine w_bipush (n := (-9)) rfl rfl rfl ?_
        refine w_goto rfl ?_
        refine w_istore_n rfl rfl ?_
        refine w_aload_n rfl rfl ?_
        refine m_get rfl rfl ?_
        refine w_if_gt rfl (fun h => ?_) (fun h => ?_)
        · replace H := H.1 h
          refine w_bipush (n := (-9)) rfl rfl rfl ?_
          refine w_goto rfl ?_
          refine w_istore rfl rfl ?_
          refine w_aload_n rfl rfl ?_
          refine m_get rfl rfl ?_
          refine w_if_le rfl (fun h => ?_) (fun h => ?_)
          · replace H := H.1 h
            refine w_aload_n rfl rfl ?_
            refine w_aload_n rfl rfl ?_
            refine m_geta (t := 0) (k := 2600) rfl rfl ?_
            refine w_iload_n rfl rfl ?_
            refine m_ald rfl (f := 47) (k := 2600) rfl g1 ?_
            refine w_iload_n rfl rfl ?_
            refine w_iload_n rfl rfl ?_
            refine w_iload rfl rfl ?_
            refine m_call (as := [vi (s28.2 47 a1), vi r29, vi (-9), vi (-9)]) (r := []) rfl rfl rfl rfl rfl rfl (wc_mono H (Nat.le_refl _) ?_)
            rintro _ s48 ⟨r49, rfl, H⟩
            show wm iv L h0 (d + 1) 133 315 [lr 307, li a1, li r29, li (-9), li (-9)] [vi r49] s48 (qi F)
            exact w_iret rfl rfl ⟨_, rfl, H⟩
          · replace H := H.2 h
            refine w_bipush (n := (-9)) rfl rfl rfl ?_
            refine w_goto rfl ?_
            exact w_iret rfl rfl ⟨_, rfl, H⟩
        · replace H := H.2 h
          refine w_aload_n rfl rfl ?_
          refine m_geta (t := 0) (k := 2600) rfl rfl ?_
          refine w_iload_n rfl rfl ?_
          refine m_ald rfl (f := 50) (k := 2600) rfl g1 ?_
          refine w_bipush (n := (-9)) rfl rfl rfl ?_
          refine w_icmp_ne rfl (fun h => ?_) (fun h => ?_)
          · replace H := H.1 h
            refine w_aload_n rfl rfl ?_
            refine w_aload_n rfl rfl ?_
            refine m_geta (t := 0) (k := 2600) rfl rfl ?_
            refine w_iload_n rfl rfl ?_
            refine m_ald rfl (f := 50) (k := 2600) rfl g1 ?_
            refine m_call (as := [vi (s28.2 50 a1)]) (r := []) rfl rfl rfl rfl rfl rfl (wc_mono H (Nat.le_refl _) ?_)
            rintro _ s50 ⟨r51, rfl, H⟩
            show wm iv L h0 (d + 1) 133 287 [lr 307, li a1, li r29, li (-9)] [vi r51] s50 (qi F)
            refine w_istore rfl rfl ?_
            refine w_aload_n rfl rfl ?_
            refine m_get rfl rfl ?_
            refine w_if_le rfl (fun h => ?_) (fun h => ?_)
            · replace H := H.1 h
              refine w_aload_n rfl rfl ?_
              refine w_aload_n rfl rfl ?_
              refine m_geta (t := 0) (k := 2600) rfl rfl ?_
              refine w_iload_n rfl rfl ?_
              refine m_ald rfl (f := 47) (k := 2600) rfl g1 ?_
              refine w_iload_n rfl rfl ?_
              refine w_iload_n rfl rfl ?_
              refine w_iload rfl rfl ?_
              refine m_call (as := [vi (s50.2 47 a1), vi r29, vi (-9), vi r51]) (r := []) rfl rfl rfl rfl rfl rfl (wc_mono H (Nat.le_refl _) ?_)
              rintro _ s52 ⟨r53, rfl, H⟩
              show wm iv L h0 (d + 1) 133 315 [lr 307, li a1, li r29, li (-9), li r51] [vi r53] s52 (qi F)
              exact w_iret rfl rfl ⟨_, rfl, H⟩
            · replace H := H.2 h
              refine w_bipush (n := (-9)) rfl rfl rfl ?_
              refine w_goto rfl ?_
              exact w_iret rfl rfl ⟨_, rfl, H⟩
          · replace H := H.2 h
            refine w_bipush (n := (-9)) rfl rfl rfl ?_
            refine w_goto rfl ?_
            refine w_istore rfl rfl ?_
            refine w_aload_n rfl rfl ?_
            refine m_get rfl rfl ?_
            refine w_if_le rfl (fun h => ?_) (fun h => ?_)
            · replace H := H.1 h
              refine w_aload_n rfl rfl ?_
              refine w_aload_n rfl rfl ?_
              refine m_geta (t := 0) (k := 2600) rfl rfl ?_
              refine w_iload_n rfl rfl ?_
              refine m_ald rfl (f := 47) (k := 2600) rfl g1 ?_
              refine w_iload_n rfl rfl ?_
              refine w_iload_n rfl rfl ?_
              refine w_iload rfl rfl ?_
              refine m_call (as := [vi (s28.2 47 a1), vi r29, vi (-9), vi (-9)]) (r := []) rfl rfl rfl rfl rfl rfl (wc_mono H (Nat.le_refl _) ?_)
              rintro _ s54 ⟨r55, rfl, H⟩
              show wm iv L h0 (d + 1) 133 315 [lr 307, li a1, li r29, li (-9), li (-9)] [vi r55] s54 (qi F)
              exact w_iret rfl rfl ⟨_, rfl, H⟩
            · replace H := H.2 h
              refine w_bipush (n := (-9)) rfl rfl rfl ?_
              refine w_goto rfl ?_
              exact w_iret rfl rfl ⟨_, rfl, H⟩
  refine w_tsw (td := 316) (ts := [44, 72, 118, 316, 184, 209]) rfl rfl rfl rfl rfl rfl (fun h => J316 (by omega)) ?_
  exact swA_c (fun h => J44 (by omega)) (swA_c (fun h => J72 (by omega)) (swA_c (fun h => J118 (by omega)) (swA_c (fun h => J316 (by omega)) (swA_c (fun h => J184 (by omega)) (swA_c (fun h => J209 (by omega)) (swA_n))))))

/-- HoleDeskModel.beginWork(II)V -/
theorem B134 {iv : List (Int × Int)} {L : Nat} {h0 : MH} {d : Nat} {s : SM} {a1 : Int} {a2 : Int} {F : SM → Prop} (H : (-2147483648 ≤ 1300 * a2 ∧ 1300 * a2 ≤ 2147483647) ∧ (-2147483648 ≤ 640 * a2 ∧ 640 * a2 ≤ 2147483647) ∧ cm iv L h0 d 86 [vr 307] (us (us (us (us (us (us (us (us s 55 a2) 52 (1300 * a2)) 54 (640 * a2)) 56 0) 57 a1) 58 0) 59 0) 60 (-9)) (qv fun s3 => cm iv L h0 d 79 [vr 307] s3 (qv fun s4 => wm iv L h0 (d + 1) 134 73 [lr 307, ln, ln, li 0] [] (us s4 63 (s4.1 18)) (qv F)))) : cm iv L h0 (d + 1) 134 [vr 307, vi a1, vi a2] s (qv F) := by
  show wm iv L h0 (d + 1) 134 0 [lr 307, li a1, li a2] [] s (qv F)
  refine w_aload_n rfl rfl ?_
  refine w_iload_n rfl rfl ?_
  refine m_put rfl rfl rfl ?_
  refine w_aload_n rfl rfl ?_
  refine w_sipush (n := 1300) rfl rfl rfl ?_
  refine w_aload_n rfl rfl ?_
  refine m_get rfl rfl ?_
  show wm iv L h0 (d + 1) 134 13 [lr 307, li a1, li a2] [vi a2, vi 1300, vr 307] (us s 55 a2) (qv F)
  obtain ⟨g1, H⟩ := H
  refine w_imul rfl g1 ?_
  refine m_put rfl rfl rfl ?_
  refine w_aload_n rfl rfl ?_
  refine w_sipush (n := 640) rfl rfl rfl ?_
  refine w_aload_n rfl rfl ?_
  refine m_get rfl rfl ?_
  show wm iv L h0 (d + 1) 134 25 [lr 307, li a1, li a2] [vi a2, vi 640, vr 307] (us (us s 55 a2) 52 (1300 * a2)) (qv F)
  obtain ⟨g2, H⟩ := H
  refine w_imul rfl g2 ?_
  refine m_put rfl rfl rfl ?_
  refine w_aload_n rfl rfl ?_
  refine w_iconst (n := 0) rfl rfl ?_
  refine m_put rfl rfl rfl ?_
  refine w_aload_n rfl rfl ?_
  refine w_iload_n rfl rfl ?_
  refine m_put rfl rfl rfl ?_
  refine w_aload_n rfl rfl ?_
  refine w_iconst (n := 0) rfl rfl ?_
  refine m_put rfl rfl rfl ?_
  refine w_aload_n rfl rfl ?_
  refine w_iconst (n := 0) rfl rfl ?_
  refine m_put rfl rfl rfl ?_
  refine w_aload_n rfl rfl ?_
  refine w_bipush (n := (-9)) rfl rfl rfl ?_
  refine m_put rfl rfl rfl ?_
  refine w_aload_n rfl rfl ?_
  refine m_call (as := []) (r := []) rfl rfl rfl rfl rfl rfl (wc_mono H (Nat.le_refl _) ?_)
  rintro _ s3 ⟨rfl, H⟩
  show wm iv L h0 (d + 1) 134 59 [lr 307, li a1, li a2] [] s3 (qv F)
  refine w_aload_n rfl rfl ?_
  refine m_call (as := []) (r := []) rfl rfl rfl rfl rfl rfl (wc_mono H (Nat.le_refl _) ?_)
  rintro _ s4 ⟨rfl, H⟩
  show wm iv L h0 (d + 1) 134 63 [lr 307, li a1, li a2] [] s4 (qv F)
  refine w_aload_n rfl rfl ?_
  refine w_aload_n rfl rfl ?_
  refine m_get rfl rfl ?_
  refine m_put rfl rfl rfl ?_
  refine w_iconst (n := 0) rfl rfl ?_
  refine w_istore_n rfl rfl ?_
  exact wp_ls (sl_s (sl_n (sl_n (sl_s (sl_0))))) H

/-- HoleDeskModel.beginWork(II)V at 73 -/
theorem B134_73 {iv : List (Int × Int)} {L : Nat} {h0 : MH} {d : Nat} {s : SM} {l3 : Int} {F : SM → Prop} (H : ((s.1 18 ≤ l3 → F s) ∧ (l3 < s.1 18 → (0 ≤ l3 ∧ l3 < 80) ∧ (0 ≤ s.2 17 l3 ∧ s.2 17 l3 < 3004) ∧ (-2147483648 ≤ l3 + 1 ∧ l3 + 1 ≤ 2147483647) ∧ wm iv L h0 (d + 1) 134 73 [lr 307, ln, ln, li (l3 + 1)] [] (ua (ua s 64 l3 (s.2 17 l3)) 65 l3 (s.2 21 (s.2 17 l3))) (qv F)))) : wm iv L h0 (d + 1) 134 73 [lr 307, ln, ln, li l3] [] s (qv F) := by
  refine w_iload_n rfl rfl ?_
  refine w_aload_n rfl rfl ?_
  refine m_get rfl rfl ?_
  refine w_icmp_ge rfl (fun h => ?_) (fun h => ?_)
  · replace H := H.1 h
    exact w_ret rfl rfl ⟨rfl, H⟩
  · replace H := H.2 h
    refine w_aload_n rfl rfl ?_
    refine m_geta (t := 0) (k := 80) rfl rfl ?_
    refine w_iload_n rfl rfl ?_
    refine w_aload_n rfl rfl ?_
    refine m_geta (t := 0) (k := 80) rfl rfl ?_
    refine w_iload_n rfl rfl ?_
    obtain ⟨g1, H⟩ := H
    refine m_ald rfl (f := 17) (k := 80) rfl g1 ?_
    refine m_ast rfl (f := 64) (k := 80) rfl g1 ?_
    refine w_aload_n rfl rfl ?_
    refine m_geta (t := 0) (k := 80) rfl rfl ?_
    refine w_iload_n rfl rfl ?_
    refine w_aload_n rfl rfl ?_
    refine m_geta (t := 0) (k := 3004) rfl rfl ?_
    refine w_aload_n rfl rfl ?_
    refine m_geta (t := 0) (k := 80) rfl rfl ?_
    refine w_iload_n rfl rfl ?_
    refine m_ald rfl (f := 17) (k := 80) rfl g1 ?_
    show wm iv L h0 (d + 1) 134 108 [lr 307, ln, ln, li l3] [vi (s.2 17 l3), vr 322, vi l3, vr 348] (ua s 64 l3 (s.2 17 l3)) (qv F)
    obtain ⟨g2, H⟩ := H
    refine m_ald rfl (f := 21) (k := 3004) rfl g2 ?_
    show wm iv L h0 (d + 1) 134 109 [lr 307, ln, ln, li l3] [vi (s.2 21 (s.2 17 l3)), vi l3, vr 348] (ua s 64 l3 (s.2 17 l3)) (qv F)
    refine m_ast rfl (f := 65) (k := 80) rfl g1 ?_
    obtain ⟨g3, H⟩ := H
    refine w_iinc rfl rfl rfl g3 ?_
    refine w_goto rfl ?_
    exact wp_ls (sl_s (sl_n (sl_n (sl_s (sl_0))))) H
