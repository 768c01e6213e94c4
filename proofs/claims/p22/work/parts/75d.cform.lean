/-! What the methods of the desk come to. Printed by wip/gen2/gens.py. -/
/-- HoleDesk$Kinds.meeting(III)Z -/
theorem C183 {iv : List (Int × Int)} {L : Nat} {h0 : MH} {d : Nat} {s : SC} {a0 : Nat} {a1 : Int} {a2 : Int} {a3 : Int} {F : Int → SC → Prop} (H : (kl s a0 = 4) ∧ (kl s (fR s a0 0) = 100) ∧ (0 ≤ a1 ∧ a1 < le s (fR s a0 0)) ∧ ((aI s (fR s a0 0) a1 = 0 → F 1 s) ∧ (aI s (fR s a0 0) a1 ≠ 0 → (0 ≤ a2 ∧ a2 < le s (fR s a0 0)) ∧ ((aI s (fR s a0 0) a2 = 0 → F 1 s) ∧ (aI s (fR s a0 0) a2 ≠ 0 → ((a3 ≤ 40 → ((aI s (fR s a0 0) a1 = aI s (fR s a0 0) a2 → ((aI s (fR s a0 0) a1 < 3 → F 1 s) ∧ (3 ≤ aI s (fR s a0 0) a1 → (kl s (fR s a0 1) = 100) ∧ (0 ≤ a1 ∧ a1 < le s (fR s a0 1)) ∧ (0 ≤ a2 ∧ a2 < le s (fR s a0 1)) ∧ (-2147483648 ≤ a3 + 1 ∧ a3 + 1 ≤ 2147483647) ∧ ck iv L h0 d 183 [vr a0, vi (aI s (fR s a0 1) a1), vi (aI s (fR s a0 1) a2), vi (a3 + 1)] s (qi fun r10 s9 => ((r10 = 0 → F 0 s9) ∧ (r10 ≠ 0 → (kl s9 a0 = 4) ∧ (kl s9 (fR s9 a0 2) = 100) ∧ (0 ≤ a1 ∧ a1 < le s9 (fR s9 a0 2)) ∧ (0 ≤ a2 ∧ a2 < le s9 (fR s9 a0 2)) ∧ ck iv L h0 d 183 [vr a0, vi (aI s9 (fR s9 a0 2) a1), vi (aI s9 (fR s9 a0 2) a2), vi (a3 + 1)] s9 (qi fun r16 s15 => ((r16 = 0 → F 0 s15) ∧ (r16 ≠ 0 → F 1 s15))))))))) ∧ (aI s (fR s a0 0) a1 ≠ aI s (fR s a0 0) a2 → F 0 s))) ∧ (40 < a3 → F 1 s))))))) : ck iv L h0 (d + 1) 183 [vr a0, vi a1, vi a2, vi a3] s (qi F) := by
  show wk iv L h0 (d + 1) 183 0 [lr a0, li a1, li a2, li a3] [] s (qi F)
  refine w_aload_n rfl rfl ?_
  obtain ⟨g1, H⟩ := H
  refine c_getr rfl rfl rfl g1 ?_
  refine w_iload_n rfl rfl ?_
  obtain ⟨g2, H⟩ := H
  obtain ⟨g3, H⟩ := H
  refine c_ald rfl g2 g3 ?_
  refine w_if_eq rfl (fun h => ?_) (fun h => ?_)
  · replace H := H.1 h
    refine w_iconst (n := 1) rfl rfl ?_
    exact w_iretz rfl rfl (by decide) ⟨_, rfl, H⟩
  · replace H := H.2 h
    refine w_aload_n rfl rfl ?_
    refine c_getr rfl rfl rfl g1 ?_
    refine w_iload_n rfl rfl ?_
    obtain ⟨g4, H⟩ := H
    refine c_ald rfl g2 g4 ?_
    refine w_if_eq rfl (fun h => ?_) (fun h => ?_)
    · replace H := H.1 h
      refine w_iconst (n := 1) rfl rfl ?_
      exact w_iretz rfl rfl (by decide) ⟨_, rfl, H⟩
    · replace H := H.2 h
      refine w_iload_n rfl rfl ?_
      refine w_bipush (n := 40) rfl rfl rfl ?_
      refine w_icmp_le rfl (fun h => ?_) (fun h => ?_)
      · replace H := H.1 h
        refine w_aload_n rfl rfl ?_
        refine c_getr rfl rfl rfl g1 ?_
        refine w_iload_n rfl rfl ?_
        refine c_ald rfl g2 g3 ?_
        refine w_aload_n rfl rfl ?_
        refine c_getr rfl rfl rfl g1 ?_
        refine w_iload_n rfl rfl ?_
        refine c_ald rfl g2 g4 ?_
        refine w_icmp_eq rfl (fun h => ?_) (fun h => ?_)
        · replace H := H.1 h
          refine w_aload_n rfl rfl ?_
          refine c_getr rfl rfl rfl g1 ?_
          refine w_iload_n rfl rfl ?_
          refine c_ald rfl g2 g3 ?_
          refine w_iconst (n := 3) rfl rfl ?_
          refine w_icmp_lt rfl (fun h => ?_) (fun h => ?_)
          · replace H := H.1 h
            refine w_iconst (n := 1) rfl rfl ?_
            refine w_goto rfl ?_
            exact w_iretz rfl rfl (by decide) ⟨_, rfl, H⟩
          · replace H := H.2 h
            refine w_aload_n rfl rfl ?_
            refine w_aload_n rfl rfl ?_
            refine c_getr rfl rfl rfl g1 ?_
            refine w_iload_n rfl rfl ?_
            obtain ⟨g5, H⟩ := H
            obtain ⟨g6, H⟩ := H
            refine c_ald rfl g5 g6 ?_
            refine w_aload_n rfl rfl ?_
            refine c_getr rfl rfl rfl g1 ?_
            refine w_iload_n rfl rfl ?_
            obtain ⟨g7, H⟩ := H
            refine c_ald rfl g5 g7 ?_
            refine w_iload_n rfl rfl ?_
            refine w_iconst (n := 1) rfl rfl ?_
            obtain ⟨g8, H⟩ := H
            refine w_iadd rfl g8 ?_
            refine c_virt (p := a0) (as := [vi (aI s (fR s a0 1) a1), vi (aI s (fR s a0 1) a2), vi (a3 + 1)]) (r := []) rfl rfl rfl rfl rfl rfl g1 (wc_mono H (Nat.le_refl _) ?_)
            rintro _ s9 ⟨r10, rfl, H⟩
            show wk iv L h0 (d + 1) 183 72 [lr a0, li a1, li a2, li a3] [vi r10] s9 (qi F)
            refine w_if_eq rfl (fun h => ?_) (fun h => ?_)
            · replace H := H.1 h
              refine w_iconst (n := 0) rfl rfl ?_
              exact w_iretz rfl rfl (by decide) ⟨_, rfl, H⟩
            · replace H := H.2 h
              refine w_aload_n rfl rfl ?_
              refine w_aload_n rfl rfl ?_
              obtain ⟨g11, H⟩ := H
              refine c_getr rfl rfl rfl g11 ?_
              refine w_iload_n rfl rfl ?_
              obtain ⟨g12, H⟩ := H
              obtain ⟨g13, H⟩ := H
              refine c_ald rfl g12 g13 ?_
              refine w_aload_n rfl rfl ?_
              refine c_getr rfl rfl rfl g11 ?_
              refine w_iload_n rfl rfl ?_
              obtain ⟨g14, H⟩ := H
              refine c_ald rfl g12 g14 ?_
              refine w_iload_n rfl rfl ?_
              refine w_iconst (n := 1) rfl rfl ?_
              refine w_iadd rfl g8 ?_
              refine c_virt (p := a0) (as := [vi (aI s9 (fR s9 a0 2) a1), vi (aI s9 (fR s9 a0 2) a2), vi (a3 + 1)]) (r := []) rfl rfl rfl rfl rfl rfl g11 (wc_mono H (Nat.le_refl _) ?_)
              rintro _ s15 ⟨r16, rfl, H⟩
              show wk iv L h0 (d + 1) 183 94 [lr a0, li a1, li a2, li a3] [vi r16] s15 (qi F)
              refine w_if_eq rfl (fun h => ?_) (fun h => ?_)
              · replace H := H.1 h
                refine w_iconst (n := 0) rfl rfl ?_
                exact w_iretz rfl rfl (by decide) ⟨_, rfl, H⟩
              · replace H := H.2 h
                refine w_iconst (n := 1) rfl rfl ?_
                refine w_goto rfl ?_
                exact w_iretz rfl rfl (by decide) ⟨_, rfl, H⟩
        · replace H := H.2 h
          refine w_iconst (n := 0) rfl rfl ?_
          exact w_iretz rfl rfl (by decide) ⟨_, rfl, H⟩
      · replace H := H.2 h
        refine w_iconst (n := 1) rfl rfl ?_
        exact w_iretz rfl rfl (by decide) ⟨_, rfl, H⟩

/-- HoleDesk$Kinds.together(III)I -/
theorem C184 {iv : List (Int × Int)} {L : Nat} {h0 : MH} {d : Nat} {s : SC} {a0 : Nat} {a1 : Int} {a2 : Int} {a3 : Int} {F : Int → SC → Prop} (H : (kl s a0 = 4) ∧ (kl s (fR s a0 0) = 100) ∧ (0 ≤ a1 ∧ a1 < le s (fR s a0 0)) ∧ ((aI s (fR s a0 0) a1 = 0 → F a2 s) ∧ (aI s (fR s a0 0) a1 ≠ 0 → ((a3 ≤ 40 → (0 ≤ a2 ∧ a2 < le s (fR s a0 0)) ∧ ((aI s (fR s a0 0) a2 = 0 → F a1 s) ∧ (aI s (fR s a0 0) a2 ≠ 0 → ((3 ≤ aI s (fR s a0 0) a1 → (kl s (fR s a0 1) = 100) ∧ (0 ≤ a1 ∧ a1 < le s (fR s a0 1)) ∧ (0 ≤ a2 ∧ a2 < le s (fR s a0 1)) ∧ (-2147483648 ≤ a3 + 1 ∧ a3 + 1 ≤ 2147483647) ∧ ck iv L h0 d 184 [vr a0, vi (aI s (fR s a0 1) a1), vi (aI s (fR s a0 1) a2), vi (a3 + 1)] s (qi fun r10 s9 => (kl s9 a0 = 4) ∧ (kl s9 (fR s9 a0 2) = 100) ∧ (0 ≤ a1 ∧ a1 < le s9 (fR s9 a0 2)) ∧ (0 ≤ a2 ∧ a2 < le s9 (fR s9 a0 2)) ∧ ck iv L h0 d 184 [vr a0, vi (aI s9 (fR s9 a0 2) a1), vi (aI s9 (fR s9 a0 2) a2), vi (a3 + 1)] s9 (qi fun r16 s15 => (kl s15 a0 = 4) ∧ (kl s15 (fR s15 a0 0) = 100) ∧ (0 ≤ a1 ∧ a1 < le s15 (fR s15 a0 0)) ∧ ck iv L h0 d 181 [vr a0, vi (aI s15 (fR s15 a0 0) a1), vi r10, vi r16] s15 (qi fun r21 s20 => F r21 s20)))) ∧ (aI s (fR s a0 0) a1 < 3 → F a1 s))))) ∧ (40 < a3 → F a2 s))))) : ck iv L h0 (d + 1) 184 [vr a0, vi a1, vi a2, vi a3] s (qi F) := by
  show wk iv L h0 (d + 1) 184 0 [lr a0, li a1, li a2, li a3] [] s (qi F)
  refine w_aload_n rfl rfl ?_
  obtain ⟨g1, H⟩ := H
  refine c_getr rfl rfl rfl g1 ?_
  refine w_iload_n rfl rfl ?_
  obtain ⟨g2, H⟩ := H
  obtain ⟨g3, H⟩ := H
  refine c_ald rfl g2 g3 ?_
  refine w_if_eq rfl (fun h => ?_) (fun h => ?_)
  · replace H := H.1 h
    refine w_iload_n rfl rfl ?_
    exact w_iret rfl rfl ⟨_, rfl, H⟩
  · replace H := H.2 h
    refine w_iload_n rfl rfl ?_
    refine w_bipush (n := 40) rfl rfl rfl ?_
    refine w_icmp_le rfl (fun h => ?_) (fun h => ?_)
    · replace H := H.1 h
      refine w_aload_n rfl rfl ?_
      refine c_getr rfl rfl rfl g1 ?_
      refine w_iload_n rfl rfl ?_
      obtain ⟨g4, H⟩ := H
      refine c_ald rfl g2 g4 ?_
      refine w_if_eq rfl (fun h => ?_) (fun h => ?_)
      · replace H := H.1 h
        refine w_iload_n rfl rfl ?_
        exact w_iret rfl rfl ⟨_, rfl, H⟩
      · replace H := H.2 h
        refine w_aload_n rfl rfl ?_
        refine c_getr rfl rfl rfl g1 ?_
        refine w_iload_n rfl rfl ?_
        refine c_ald rfl g2 g3 ?_
        refine w_iconst (n := 3) rfl rfl ?_
        refine w_icmp_ge rfl (fun h => ?_) (fun h => ?_)
        · replace H := H.1 h
          refine w_aload_n rfl rfl ?_
          refine w_aload_n rfl rfl ?_
          refine c_getr rfl rfl rfl g1 ?_
          refine w_iload_n rfl rfl ?_
          obtain ⟨g5, H⟩ := H
          obtain ⟨g6, H⟩ := H
          refine c_ald rfl g5 g6 ?_
          refine w_aload_n rfl rfl ?_
          refine c_getr rfl rfl rfl g1 ?_
          refine w_iload_n rfl rfl ?_
          obtain ⟨g7, H⟩ := H
          refine c_ald rfl g5 g7 ?_
          refine w_iload_n rfl rfl ?_
          refine w_iconst (n := 1) rfl rfl ?_
          obtain ⟨g8, H⟩ := H
          refine w_iadd rfl g8 ?_
          refine c_virt (p := a0) (as := [vi (aI s (fR s a0 1) a1), vi (aI s (fR s a0 1) a2), vi (a3 + 1)]) (r := []) rfl rfl rfl rfl rfl rfl g1 (wc_mono H (Nat.le_refl _) ?_)
          rintro _ s9 ⟨r10, rfl, H⟩
          show wk iv L h0 (d + 1) 184 57 [lr a0, li a1, li a2, li a3] [vi r10] s9 (qi F)
          refine w_istore rfl rfl ?_
          refine w_aload_n rfl rfl ?_
          refine w_aload_n rfl rfl ?_
          obtain ⟨g11, H⟩ := H
          refine c_getr rfl rfl rfl g11 ?_
          refine w_iload_n rfl rfl ?_
          obtain ⟨g12, H⟩ := H
          obtain ⟨g13, H⟩ := H
          refine c_ald rfl g12 g13 ?_
          refine w_aload_n rfl rfl ?_
          refine c_getr rfl rfl rfl g11 ?_
          refine w_iload_n rfl rfl ?_
          obtain ⟨g14, H⟩ := H
          refine c_ald rfl g12 g14 ?_
          refine w_iload_n rfl rfl ?_
          refine w_iconst (n := 1) rfl rfl ?_
          refine w_iadd rfl g8 ?_
          refine c_virt (p := a0) (as := [vi (aI s9 (fR s9 a0 2) a1), vi (aI s9 (fR s9 a0 2) a2), vi (a3 + 1)]) (r := []) rfl rfl rfl rfl rfl rfl g11 (wc_mono H (Nat.le_refl _) ?_)
          rintro _ s15 ⟨r16, rfl, H⟩
          show wk iv L h0 (d + 1) 184 78 [lr a0, li a1, li a2, li a3, li r10] [vi r16] s15 (qi F)
          refine w_istore rfl rfl ?_
          refine w_aload_n rfl rfl ?_
          refine w_aload_n rfl rfl ?_
          obtain ⟨g17, H⟩ := H
          refine c_getr rfl rfl rfl g17 ?_
          refine w_iload_n rfl rfl ?_
          obtain ⟨g18, H⟩ := H
          obtain ⟨g19, H⟩ := H
          refine c_ald rfl g18 g19 ?_
          refine w_iload rfl rfl ?_
          refine w_iload rfl rfl ?_
          refine c_virt (p := a0) (as := [vi (aI s15 (fR s15 a0 0) a1), vi r10, vi r16]) (r := []) rfl rfl rfl rfl rfl rfl g17 (wc_mono H (Nat.le_refl _) ?_)
          rintro _ s20 ⟨r21, rfl, H⟩
          show wk iv L h0 (d + 1) 184 94 [lr a0, li a1, li a2, li a3, li r10, li r16] [vi r21] s20 (qi F)
          exact w_iret rfl rfl ⟨_, rfl, H⟩
        · replace H := H.2 h
          refine w_iload_n rfl rfl ?_
          exact w_iret rfl rfl ⟨_, rfl, H⟩
    · replace H := H.2 h
      refine w_iload_n rfl rfl ?_
      exact w_iret rfl rfl ⟨_, rfl, H⟩

/-- HoleDesk$Kinds.signOf(II)I -/
theorem C185 {iv : List (Int × Int)} {L : Nat} {h0 : MH} {d : Nat} {s : SC} {a0 : Nat} {a1 : Int} {a2 : Int} {F : Int → SC → Prop} (H : wk iv L h0 d 185 8 [lr a0, ln, ln, li a1, li a2, li 0] [] s (qi F)) : ck iv L h0 d 185 [vr a0, vi a1, vi a2] s (qi F) := by
  show wk iv L h0 d 185 0 [lr a0, li a1, li a2] [] s (qi F)
  refine w_iload_n rfl rfl ?_
  refine w_istore_n rfl rfl ?_
  refine w_iload_n rfl rfl ?_
  refine w_istore rfl rfl ?_
  refine w_iconst (n := 0) rfl rfl ?_
  refine w_istore rfl rfl ?_
  exact wp_ls (sl_s (sl_n (sl_n (sl_s (sl_s (sl_s (sl_0))))))) H

/-- HoleDesk$Kinds.signOf(II)I at 8 -/
theorem C185_8 {iv : List (Int × Int)} {L : Nat} {h0 : MH} {d : Nat} {s : SC} {l0 : Nat} {l3 : Int} {l4 : Int} {l5 : Int} {F : Int → SC → Prop} (H : ((40 < l5 → F (-9) s) ∧ (l5 ≤ 40 → (kl s l0 = 4) ∧ (kl s (fR s l0 3) = 100) ∧ (0 ≤ l3 ∧ l3 < le s (fR s l0 3)) ∧ ((aI s (fR s l0 3) l3 ≤ l4 → F (-9) s) ∧ (l4 < aI s (fR s l0 3) l3 → ((l4 ≠ 0 → (-2147483648 ≤ l4 - 1 ∧ l4 - 1 ≤ 2147483647) ∧ (kl s (fR s l0 1) = 100) ∧ (0 ≤ l3 ∧ l3 < le s (fR s l0 1)) ∧ (0 ≤ aI s (fR s l0 1) l3 ∧ aI s (fR s l0 1) l3 < le s (fR s l0 3)) ∧ ((aI s (fR s l0 3) (aI s (fR s l0 1) l3) ≤ l4 - 1 → (-2147483648 ≤ (l4 - 1) - (aI s (fR s l0 3) (aI s (fR s l0 1) l3)) ∧ (l4 - 1) - (aI s (fR s l0 3) (aI s (fR s l0 1) l3)) ≤ 2147483647) ∧ (kl s (fR s l0 2) = 100) ∧ (0 ≤ l3 ∧ l3 < le s (fR s l0 2)) ∧ (-2147483648 ≤ l5 + 1 ∧ l5 + 1 ≤ 2147483647) ∧ wk iv L h0 d 185 8 [lr l0, ln, ln, li (aI s (fR s l0 2) l3), li ((l4 - 1) - (aI s (fR s l0 3) (aI s (fR s l0 1) l3))), li (l5 + 1)] [] s (qi F)) ∧ (l4 - 1 < aI s (fR s l0 3) (aI s (fR s l0 1) l3) → (-2147483648 ≤ l5 + 1 ∧ l5 + 1 ≤ 2147483647) ∧ wk iv L h0 d 185 8 [lr l0, ln, ln, li (aI s (fR s l0 1) l3), li (l4 - 1), li (l5 + 1)] [] s (qi F)))) ∧ (l4 = 0 → (kl s (fR s l0 0) = 100) ∧ (0 ≤ l3 ∧ l3 < le s (fR s l0 0)) ∧ (8 ≤ 8 ∧ 8 < 8 + NS0) ∧ (0 ≤ aI s (fR s l0 0) l3 ∧ aI s (fR s l0 0) l3 < slen 8) ∧ F (scat 8 (aI s (fR s l0 0) l3)) s))))))) : wk iv L h0 d 185 8 [lr l0, ln, ln, li l3, li l4, li l5] [] s (qi F) := by
  refine w_iload rfl rfl ?_
  refine w_bipush (n := 40) rfl rfl rfl ?_
  refine w_icmp_gt rfl (fun h => ?_) (fun h => ?_)
  · replace H := H.1 h
    refine w_bipush (n := (-9)) rfl rfl rfl ?_
    exact w_iret rfl rfl ⟨_, rfl, H⟩
  · replace H := H.2 h
    refine w_iload rfl rfl ?_
    refine w_aload_n rfl rfl ?_
    obtain ⟨g1, H⟩ := H
    refine c_getr rfl rfl rfl g1 ?_
    refine w_iload_n rfl rfl ?_
    obtain ⟨g2, H⟩ := H
    obtain ⟨g3, H⟩ := H
    refine c_ald rfl g2 g3 ?_
    refine w_icmp_ge rfl (fun h => ?_) (fun h => ?_)
    · replace H := H.1 h
      refine w_bipush (n := (-9)) rfl rfl rfl ?_
      exact w_iret rfl rfl ⟨_, rfl, H⟩
    · replace H := H.2 h
      refine w_iload rfl rfl ?_
      refine w_if_ne rfl (fun h => ?_) (fun h => ?_)
      · replace H := H.1 h
        obtain ⟨g4, H⟩ := H
        refine w_iinc rfl rfl rfl g4 ?_
        show wk iv L h0 d 185 46 [lr l0, ln, ln, li l3, li (l4 - 1), li l5] [] s (qi F)
        refine w_aload_n rfl rfl ?_
        refine c_getr rfl rfl rfl g1 ?_
        refine w_aload_n rfl rfl ?_
        refine c_getr rfl rfl rfl g1 ?_
        refine w_iload_n rfl rfl ?_
        obtain ⟨g5, H⟩ := H
        obtain ⟨g6, H⟩ := H
        refine c_ald rfl g5 g6 ?_
        obtain ⟨g7, H⟩ := H
        refine c_ald rfl g2 g7 ?_
        refine w_istore rfl rfl ?_
        refine w_iload rfl rfl ?_
        refine w_iload rfl rfl ?_
        refine w_icmp_ge rfl (fun h => ?_) (fun h => ?_)
        · replace H := H.1 h
          refine w_iload rfl rfl ?_
          refine w_iload rfl rfl ?_
          obtain ⟨g8, H⟩ := H
          refine w_isub rfl g8 ?_
          refine w_istore rfl rfl ?_
          refine w_aload_n rfl rfl ?_
          refine c_getr rfl rfl rfl g1 ?_
          refine w_iload_n rfl rfl ?_
          obtain ⟨g9, H⟩ := H
          obtain ⟨g10, H⟩ := H
          refine c_ald rfl g9 g10 ?_
          refine w_istore_n rfl rfl ?_
          obtain ⟨g11, H⟩ := H
          refine w_iinc rfl rfl rfl g11 ?_
          refine w_goto rfl ?_
          exact wp_ls (sl_s (sl_n (sl_n (sl_s (sl_s (sl_s (sl_0))))))) H
        · replace H := H.2 h
          refine w_aload_n rfl rfl ?_
          refine c_getr rfl rfl rfl g1 ?_
          refine w_iload_n rfl rfl ?_
          refine c_ald rfl g5 g6 ?_
          refine w_istore_n rfl rfl ?_
          refine w_goto rfl ?_
          obtain ⟨g12, H⟩ := H
          refine w_iinc rfl rfl rfl g12 ?_
          refine w_goto rfl ?_
          exact wp_ls (sl_s (sl_n (sl_n (sl_s (sl_s (sl_s (sl_0))))))) H
      · replace H := H.2 h
        refine w_ldcs (x := 8) rfl rfl (by decide) ?_
        refine w_aload_n rfl rfl ?_
        refine c_getr rfl rfl rfl g1 ?_
        refine w_iload_n rfl rfl ?_
        obtain ⟨g13, H⟩ := H
        obtain ⟨g14, H⟩ := H
        refine c_ald rfl g13 g14 ?_
        obtain ⟨g15, H⟩ := H
        obtain ⟨g16, H⟩ := H
        refine w_sat rfl g15 g16 rfl ?_
        exact w_iret rfl rfl ⟨_, rfl, H⟩

/-- HoleDesk$Node.<init>(IIII)V -/
theorem C186 {iv : List (Int × Int)} {L : Nat} {h0 : MH} {d : Nat} {s : SC} {a0 : Nat} {a1 : Int} {a2 : Int} {a3 : Int} {a4 : Int} {F : SC → Prop} (H : (a0 ≠ 2) ∧ (kl s a0 = 5) ∧ (0 ≤ a2 ∧ a2 < 16) ∧ (0 ≤ pO a2 ∧ pO a2 ≤ 67108864) ∧ (353 ≤ nxt s) ∧ (kl (nA s 3 (pO a2)) a0 = 5) ∧ F (uR (nA (uI (uI (uI (uI (uR (uI (uI (uI (uI (uI (uI (uR s a0 5 2) a0 6 0) a0 7 0) a0 8 (-1)) a0 9 0) a0 10 0) a0 11 (-9)) a0 12 2) a0 0 a1) a0 1 a2) a0 4 a3) a0 2 a4) 3 (pO a2)) a0 3 (nxt s))) : ck iv L h0 d 186 [vr a0, vi a1, vi a2, vi a3, vi a4] s (qv F) := by
  show wk iv L h0 d 186 0 [lr a0, li a1, li a2, li a3, li a4] [] s (qv F)
  refine w_aload_n rfl rfl ?_
  obtain ⟨g1, H⟩ := H
  refine c_oinit rfl rfl g1 ?_
  refine w_aload_n rfl rfl ?_
  refine w_null rfl ?_
  obtain ⟨g2, H⟩ := H
  refine c_putr rfl rfl rfl rfl g2 ?_
  refine w_aload_n rfl rfl ?_
  refine w_iconst (n := 0) rfl rfl ?_
  refine c_put rfl rfl rfl rfl g2 ?_
  refine w_aload_n rfl rfl ?_
  refine w_iconst (n := 0) rfl rfl ?_
  refine c_put rfl rfl rfl rfl g2 ?_
  refine w_aload_n rfl rfl ?_
  refine w_iconst (n := (-1)) rfl rfl ?_
  refine c_put rfl rfl rfl rfl g2 ?_
  refine w_aload_n rfl rfl ?_
  refine w_iconst (n := 0) rfl rfl ?_
  refine c_put rfl rfl rfl rfl g2 ?_
  refine w_aload_n rfl rfl ?_
  refine w_iconst (n := 0) rfl rfl ?_
  refine c_put rfl rfl rfl rfl g2 ?_
  refine w_aload_n rfl rfl ?_
  refine w_bipush (n := (-9)) rfl rfl rfl ?_
  refine c_put rfl rfl rfl rfl g2 ?_
  refine w_aload_n rfl rfl ?_
  refine w_null rfl ?_
  refine c_putr rfl rfl rfl rfl g2 ?_
  refine w_aload_n rfl rfl ?_
  refine w_iload_n rfl rfl ?_
  refine c_put rfl rfl rfl rfl g2 ?_
  refine w_aload_n rfl rfl ?_
  refine w_iload_n rfl rfl ?_
  refine c_put rfl rfl rfl rfl g2 ?_
  refine w_aload_n rfl rfl ?_
  refine w_iload_n rfl rfl ?_
  refine c_put rfl rfl rfl rfl g2 ?_
  refine w_aload_n rfl rfl ?_
  refine w_iload rfl rfl ?_
  refine c_put rfl rfl rfl rfl g2 ?_
  refine w_aload_n rfl rfl ?_
  refine w_getst rfl (by decide) ?_
  refine w_iload_n rfl rfl ?_
  obtain ⟨g3, H⟩ := H
  refine w_pald rfl g3 ?_
  obtain ⟨g4, H⟩ := H
  obtain ⟨g5, H⟩ := H
  refine c_anewa rfl rfl g4 g5 ?_
  show wk iv L h0 d 186 75 [lr a0, li a1, li a2, li a3, li a4] [vr (nxt s), vr a0] (nA (uI (uI (uI (uI (uR (uI (uI (uI (uI (uI (uI (uR s a0 5 2) a0 6 0) a0 7 0) a0 8 (-1)) a0 9 0) a0 10 0) a0 11 (-9)) a0 12 2) a0 0 a1) a0 1 a2) a0 4 a3) a0 2 a4) 3 (pO a2)) (qv F)
  obtain ⟨g6, H⟩ := H
  refine c_putr rfl rfl rfl rfl g6 ?_
  exact w_ret rfl rfl ⟨rfl, H⟩

/-- HoleDesk$Node.hasPart(I)Z -/
theorem C187 {iv : List (Int × Int)} {L : Nat} {h0 : MH} {d : Nat} {s : SC} {a0 : Nat} {a1 : Int} {F : Int → SC → Prop} (H : ((a1 < 0 → F 0 s) ∧ (0 ≤ a1 → (kl s a0 = 5) ∧ (100 ≤ kl s (fR s a0 3) ∧ kl s (fR s a0 3) < 108) ∧ ((le s (fR s a0 3) ≤ a1 → F 0 s) ∧ (a1 < le s (fR s a0 3) → F 1 s))))) : ck iv L h0 d 187 [vr a0, vi a1] s (qi F) := by
  show wk iv L h0 d 187 0 [lr a0, li a1] [] s (qi F)
  refine w_iload_n rfl rfl ?_
  refine w_if_lt rfl (fun h => ?_) (fun h => ?_)
  · replace H := H.1 h
    refine w_iconst (n := 0) rfl rfl ?_
    exact w_iretz rfl rfl (by decide) ⟨_, rfl, H⟩
  · replace H := H.2 h
    refine w_iload_n rfl rfl ?_
    refine w_aload_n rfl rfl ?_
    obtain ⟨g1, H⟩ := H
    refine c_getr rfl rfl rfl g1 ?_
    obtain ⟨g2, H⟩ := H
    refine c_len rfl g2 ?_
    refine w_icmp_ge rfl (fun h => ?_) (fun h => ?_)
    · replace H := H.1 h
      refine w_iconst (n := 0) rfl rfl ?_
      exact w_iretz rfl rfl (by decide) ⟨_, rfl, H⟩
    · replace H := H.2 h
      refine w_iconst (n := 1) rfl rfl ?_
      refine w_goto rfl ?_
      exact w_iretz rfl rfl (by decide) ⟨_, rfl, H⟩

/-- HoleDesk$Node.hang(ILHoleDesk$Node;)V -/
theorem C188 {iv : List (Int × Int)} {L : Nat} {h0 : MH} {d : Nat} {s : SC} {a0 : Nat} {a1 : Int} {a2 : Nat} {F : SC → Prop} (H : (kl s a0 = 5) ∧ (kl s (fR s a0 3) = 103) ∧ (0 ≤ a1 ∧ a1 < le s (fR s a0 3)) ∧ (a2 = 2 ∨ kl s a2 = 5) ∧ (kl s a2 = 5) ∧ F (uI (uR (uB s (fR s a0 3) a1 a2) a2 5 a0) a2 6 a1)) : ck iv L h0 d 188 [vr a0, vi a1, vr a2] s (qv F) := by
  show wk iv L h0 d 188 0 [lr a0, li a1, lr a2] [] s (qv F)
  refine w_aload_n rfl rfl ?_
  obtain ⟨g1, H⟩ := H
  refine c_getr rfl rfl rfl g1 ?_
  refine w_iload_n rfl rfl ?_
  refine w_aload_n rfl rfl ?_
  obtain ⟨g2, H⟩ := H
  obtain ⟨g3, H⟩ := H
  obtain ⟨g4, H⟩ := H
  refine c_aast rfl rfl g2 g3 (by rcases g4 with e | e; exact Or.inl e; exact Or.inr ⟨e, by decide⟩) ?_
  refine w_aload_n rfl rfl ?_
  refine w_aload_n rfl rfl ?_
  obtain ⟨g5, H⟩ := H
  refine c_putr rfl rfl rfl rfl g5 ?_
  refine w_aload_n rfl rfl ?_
  refine w_iload_n rfl rfl ?_
  refine c_put rfl rfl rfl rfl g5 ?_
  exact w_ret rfl rfl ⟨rfl, H⟩

/-- HoleDesk$Node.madeForOthers()I -/
theorem C189 {iv : List (Int × Int)} {L : Nat} {h0 : MH} {d : Nat} {s : SC} {a0 : Nat} {F : Int → SC → Prop} (H : (kl s a0 = 5) ∧ ((fI s a0 10 ≠ 0 → F 0 s) ∧ (fI s a0 10 = 0 → F (fI s a0 9) s))) : ck iv L h0 d 189 [vr a0] s (qi F) := by
  show wk iv L h0 d 189 0 [lr a0] [] s (qi F)
  refine w_aload_n rfl rfl ?_
  obtain ⟨g1, H⟩ := H
  refine c_get rfl rfl rfl g1 ?_
  refine w_if_ne rfl (fun h => ?_) (fun h => ?_)
  · replace H := H.1 h
    refine w_iconst (n := 0) rfl rfl ?_
    exact w_iret rfl rfl ⟨_, rfl, H⟩
  · replace H := H.2 h
    refine w_aload_n rfl rfl ?_
    refine c_get rfl rfl rfl g1 ?_
    refine w_goto rfl ?_
    exact w_iret rfl rfl ⟨_, rfl, H⟩

/-- HoleDesk$Node.latestFiller()LHoleDesk$Node; -/
theorem C190 {iv : List (Int × Int)} {L : Nat} {h0 : MH} {d : Nat} {s : SC} {a0 : Nat} {F : Nat → SC → Prop} (H : (kl s a0 = 5) ∧ wk iv L h0 d 190 5 [ln, lr (fR s a0 12)] [] s (qa F)) : ck iv L h0 d 190 [vr a0] s (qa F) := by
  show wk iv L h0 d 190 0 [lr a0] [] s (qa F)
  refine w_aload_n rfl rfl ?_
  obtain ⟨g1, H⟩ := H
  refine c_getr rfl rfl rfl g1 ?_
  refine w_astore_n rfl rfl ?_
  exact wp_ls (sl_n (sl_s (sl_0))) H

/-- HoleDesk$Node.latestFiller()LHoleDesk$Node; at 5 -/
theorem C190_5 {iv : List (Int × Int)} {L : Nat} {h0 : MH} {d : Nat} {s : SC} {l1 : Nat} {F : Nat → SC → Prop} (H : ((l1 = 2 → F l1 s) ∧ (l1 ≠ 2 → (kl s l1 = 5) ∧ ((fR s l1 12 = 2 → F l1 s) ∧ (fR s l1 12 ≠ 2 → wk iv L h0 d 190 5 [ln, lr (fR s l1 12)] [] s (qa F)))))) : wk iv L h0 d 190 5 [ln, lr l1] [] s (qa F) := by
  refine w_aload_n rfl rfl ?_
  refine c_null rfl (fun h => ?_) (fun h => ?_)
  · replace H := H.1 h
    refine w_aload_n rfl rfl ?_
    exact w_aret rfl rfl ⟨_, rfl, H⟩
  · replace H := H.2 h
    refine w_aload_n rfl rfl ?_
    obtain ⟨g1, H⟩ := H
    refine c_getr rfl rfl rfl g1 ?_
    refine c_null rfl (fun h => ?_) (fun h => ?_)
    · replace H := H.1 h
      refine w_aload_n rfl rfl ?_
      exact w_aret rfl rfl ⟨_, rfl, H⟩
    · replace H := H.2 h
      refine w_aload_n rfl rfl ?_
      refine c_getr rfl rfl rfl g1 ?_
      refine w_astore_n rfl rfl ?_
      refine w_goto rfl ?_
      exact wp_ls (sl_n (sl_s (sl_0))) H

/-- HoleDesk$Node.behind()LHoleDesk$Node; -/
theorem C191 {iv : List (Int × Int)} {L : Nat} {h0 : MH} {d : Nat} {s : SC} {a0 : Nat} {F : Nat → SC → Prop} (H : wk iv L h0 d 191 2 [ln, lr a0] [] s (qa F)) : ck iv L h0 d 191 [vr a0] s (qa F) := by
  show wk iv L h0 d 191 0 [lr a0] [] s (qa F)
  refine w_aload_n rfl rfl ?_
  refine w_astore_n rfl rfl ?_
  exact wp_ls (sl_n (sl_s (sl_0))) H

/-- HoleDesk$Node.behind()LHoleDesk$Node; at 2 -/
theorem C191_2 {iv : List (Int × Int)} {L : Nat} {h0 : MH} {d : Nat} {s : SC} {l1 : Nat} {F : Nat → SC → Prop} (H : (kl s l1 = 5) ∧ ((fR s l1 5 = 2 → F 2 s) ∧ (fR s l1 5 ≠ 2 → (-2147483648 ≤ (fI s l1 6) + 1 ∧ (fI s l1 6) + 1 ≤ 2147483647) ∧ (kl s (fR s l1 5) = 5) ∧ (100 ≤ kl s (fR s (fR s l1 5) 3) ∧ kl s (fR s (fR s l1 5) 3) < 108) ∧ ((le s (fR s (fR s l1 5) 3) ≤ (fI s l1 6) + 1 → wk iv L h0 d 191 2 [ln, lr (fR s l1 5)] [] s (qa F)) ∧ ((fI s l1 6) + 1 < le s (fR s (fR s l1 5) 3) → (kl s (fR s (fR s l1 5) 3) = 103) ∧ (0 ≤ (fI s l1 6) + 1 ∧ (fI s l1 6) + 1 < le s (fR s (fR s l1 5) 3)) ∧ F (aR s (fR s (fR s l1 5) 3) ((fI s l1 6) + 1)) s))))) : wk iv L h0 d 191 2 [ln, lr l1] [] s (qa F) := by
  refine w_aload_n rfl rfl ?_
  obtain ⟨g1, H⟩ := H
  refine c_getr rfl rfl rfl g1 ?_
  refine c_null rfl (fun h => ?_) (fun h => ?_)
  · replace H := H.1 h
    refine w_null rfl ?_
    exact w_aret rfl rfl ⟨_, rfl, H⟩
  · replace H := H.2 h
    refine w_aload_n rfl rfl ?_
    refine c_get rfl rfl rfl g1 ?_
    refine w_iconst (n := 1) rfl rfl ?_
    obtain ⟨g2, H⟩ := H
    refine w_iadd rfl g2 ?_
    refine w_aload_n rfl rfl ?_
    refine c_getr rfl rfl rfl g1 ?_
    obtain ⟨g3, H⟩ := H
    refine c_getr rfl rfl rfl g3 ?_
    obtain ⟨g4, H⟩ := H
    refine c_len rfl g4 ?_
    refine w_icmp_ge rfl (fun h => ?_) (fun h => ?_)
    · replace H := H.1 h
      refine w_aload_n rfl rfl ?_
      refine c_getr rfl rfl rfl g1 ?_
      refine w_astore_n rfl rfl ?_
      refine w_goto rfl ?_
      exact wp_ls (sl_n (sl_s (sl_0))) H
    · replace H := H.2 h
      refine w_aload_n rfl rfl ?_
      refine c_getr rfl rfl rfl g1 ?_
      refine c_getr rfl rfl rfl g3 ?_
      refine w_aload_n rfl rfl ?_
      refine c_get rfl rfl rfl g1 ?_
      refine w_iconst (n := 1) rfl rfl ?_
      refine w_iadd rfl g2 ?_
      obtain ⟨g5, H⟩ := H
      obtain ⟨g6, H⟩ := H
      refine c_aald (t := 3) rfl ⟨g5, by decide, by decide⟩ g6 ?_
      exact w_aret rfl rfl ⟨_, rfl, H⟩

/-- HoleDesk$Node.following()LHoleDesk$Node; -/
theorem C192 {iv : List (Int × Int)} {L : Nat} {h0 : MH} {d : Nat} {s : SC} {a0 : Nat} {F : Nat → SC → Prop} (H : (kl s a0 = 5) ∧ (100 ≤ kl s (fR s a0 3) ∧ kl s (fR s a0 3) < 108) ∧ ((le s (fR s a0 3) ≤ 0 → ck iv L h0 d 191 [vr a0] s (qa fun r4 s3 => F r4 s3)) ∧ (0 < le s (fR s a0 3) → (kl s (fR s a0 3) = 103) ∧ ((0 : Int) ≤ 0 ∧ 0 < le s (fR s a0 3)) ∧ F (aR s (fR s a0 3) 0) s))) : ck iv L h0 (d + 1) 192 [vr a0] s (qa F) := by
  show wk iv L h0 (d + 1) 192 0 [lr a0] [] s (qa F)
  refine w_aload_n rfl rfl ?_
  obtain ⟨g1, H⟩ := H
  refine c_getr rfl rfl rfl g1 ?_
  obtain ⟨g2, H⟩ := H
  refine c_len rfl g2 ?_
  refine w_if_le rfl (fun h => ?_) (fun h => ?_)
  · replace H := H.1 h
    refine w_aload_n rfl rfl ?_
    refine c_virt (p := a0) (as := []) (r := []) rfl rfl rfl rfl rfl rfl g1 (wc_mono H (Nat.le_refl _) ?_)
    rintro _ s3 ⟨r4, rfl, H⟩
    show wk iv L h0 (d + 1) 192 21 [lr a0] [vr r4] s3 (qa F)
    exact w_aret rfl rfl ⟨_, rfl, H⟩
  · replace H := H.2 h
    refine w_aload_n rfl rfl ?_
    refine c_getr rfl rfl rfl g1 ?_
    refine w_iconst (n := 0) rfl rfl ?_
    obtain ⟨g5, H⟩ := H
    obtain ⟨g6, H⟩ := H
    refine c_aald (t := 3) rfl ⟨g5, by decide, by decide⟩ g6 ?_
    refine w_goto rfl ?_
    exact w_aret rfl rfl ⟨_, rfl, H⟩

/-- HoleDesk$Pool.<init>()V -/
theorem C193 {iv : List (Int × Int)} {L : Nat} {h0 : MH} {d : Nat} {s : SC} {a0 : Nat} {F : SC → Prop} (H : (a0 ≠ 2) ∧ (353 ≤ nxt s) ∧ (kl (nA s 6 620) a0 = 6) ∧ (353 ≤ nxt s + 1) ∧ (kl (nA (nA s 6 620) 7 320) a0 = 6) ∧ F (uI (uI (uR (nA (uR (nA s 6 620) a0 0 (nxt s)) 7 320) a0 1 (nxt s + 1)) a0 2 0) a0 3 0)) : ck iv L h0 d 193 [vr a0] s (qv F) := by
  show wk iv L h0 d 193 0 [lr a0] [] s (qv F)
  refine w_aload_n rfl rfl ?_
  obtain ⟨g1, H⟩ := H
  refine c_oinit rfl rfl g1 ?_
  refine w_aload_n rfl rfl ?_
  refine w_sipush (n := 620) rfl rfl rfl ?_
  obtain ⟨g2, H⟩ := H
  refine c_anewa rfl rfl ⟨by decide, by decide⟩ g2 ?_
  show wk iv L h0 d 193 11 [lr a0] [vr (nxt s), vr a0] (nA s 6 620) (qv F)
  obtain ⟨g3, H⟩ := H
  refine c_putr rfl rfl rfl rfl g3 ?_
  refine w_aload_n rfl rfl ?_
  refine w_sipush (n := 320) rfl rfl rfl ?_
  obtain ⟨g4, H⟩ := H
  refine c_anewa rfl rfl ⟨by decide, by decide⟩ g4 ?_
  show wk iv L h0 d 193 21 [lr a0] [vr (nxt s + 1), vr a0] (nA (uR (nA s 6 620) a0 0 (nxt s)) 7 320) (qv F)
  obtain ⟨g5, H⟩ := H
  refine c_putr rfl rfl rfl rfl g5 ?_
  refine w_aload_n rfl rfl ?_
  refine w_iconst (n := 0) rfl rfl ?_
  refine c_put rfl rfl rfl rfl g5 ?_
  refine w_aload_n rfl rfl ?_
  refine w_iconst (n := 0) rfl rfl ?_
  refine c_put rfl rfl rfl rfl g5 ?_
  exact w_ret rfl rfl ⟨rfl, H⟩

/-- HoleDesk$Pool.clear()V -/
theorem C194 {iv : List (Int × Int)} {L : Nat} {h0 : MH} {d : Nat} {s : SC} {a0 : Nat} {F : SC → Prop} (H : (kl s a0 = 6) ∧ F (uI (uI s a0 2 0) a0 3 0)) : ck iv L h0 d 194 [vr a0] s (qv F) := by
  show wk iv L h0 d 194 0 [lr a0] [] s (qv F)
  refine w_aload_n rfl rfl ?_
  refine w_iconst (n := 0) rfl rfl ?_
  obtain ⟨g1, H⟩ := H
  refine c_put rfl rfl rfl rfl g1 ?_
  refine w_aload_n rfl rfl ?_
  refine w_iconst (n := 0) rfl rfl ?_
  refine c_put rfl rfl rfl rfl g1 ?_
  exact w_ret rfl rfl ⟨rfl, H⟩

/-- HoleDesk$Pool.made(IILHoleDesk$Node;LHoleDesk$Seen;)LHoleDesk$Value; -/
theorem C195 {iv : List (Int × Int)} {L : Nat} {h0 : MH} {d : Nat} {s : SC} {a0 : Nat} {a1 : Int} {a2 : Int} {a3 : Nat} {a4 : Nat} {F : Nat → SC → Prop} (H : (kl s a0 = 6) ∧ (100 ≤ kl s (fR s a0 0) ∧ kl s (fR s a0 0) < 108) ∧ ((fI s a0 2 < le s (fR s a0 0) → (kl s (fR s a0 0) = 106) ∧ (0 ≤ fI s a0 2 ∧ fI s a0 2 < le s (fR s a0 0)) ∧ ((aR s (fR s a0 0) (fI s a0 2) ≠ 2 → (-2147483648 ≤ (fI s a0 2) + 1 ∧ (fI s a0 2) + 1 ≤ 2147483647) ∧ (kl s (aR s (fR s a0 0) (fI s a0 2)) = 10) ∧ ck iv L h0 d 225 [vr (aR s (fR s a0 0) (fI s a0 2))] (uR (uR (uR (uR (uI (uI (uI s a0 2 ((fI s a0 2) + 1)) (aR s (fR s a0 0) (fI s a0 2)) 0 a1) (aR s (fR s a0 0) (fI s a0 2)) 1 a2) (aR s (fR s a0 0) (fI s a0 2)) 2 a3) (aR s (fR s a0 0) (fI s a0 2)) 3 2) (aR s (fR s a0 0) (fI s a0 2)) 4 2) (aR s (fR s a0 0) (fI s a0 2)) 5 a4) (qi fun r8 s7 => (r8 = 0 ∨ r8 = 1) ∧ (kl s7 (aR s (fR s a0 0) (fI s a0 2)) = 10) ∧ F (aR s (fR s a0 0) (fI s a0 2)) (uI s7 (aR s (fR s a0 0) (fI s a0 2)) 6 r8))) ∧ (aR s (fR s a0 0) (fI s a0 2) = 2 → (353 ≤ nxt s) ∧ (nxt s ≠ 2) ∧ ck iv L h0 d 224 [vr (nxt s)] (nO s 9) (qv fun s13 => (kl s13 (fR s a0 0) = 106) ∧ (0 ≤ fI s a0 2 ∧ fI s a0 2 < le s13 (fR s a0 0)) ∧ (nxt s = 2 ∨ kl s13 (nxt s) = 10) ∧ (kl s13 a0 = 6) ∧ (-2147483648 ≤ (fI s13 a0 2) + 1 ∧ (fI s13 a0 2) + 1 ≤ 2147483647) ∧ (kl s13 (fR s13 a0 0) = 106) ∧ (0 ≤ fI s13 a0 2 ∧ fI s13 a0 2 < le s13 (fR s13 a0 0)) ∧ (kl s13 (aR (uB s13 (fR s a0 0) (fI s a0 2) (nxt s)) (fR s13 a0 0) (fI s13 a0 2)) = 10) ∧ ck iv L h0 d 225 [vr (aR (uB s13 (fR s a0 0) (fI s a0 2) (nxt s)) (fR s13 a0 0) (fI s13 a0 2))] (uR (uR (uR (uR (uI (uI (uI (uB s13 (fR s a0 0) (fI s a0 2) (nxt s)) a0 2 ((fI s13 a0 2) + 1)) (aR (uB s13 (fR s a0 0) (fI s a0 2) (nxt s)) (fR s13 a0 0) (fI s13 a0 2)) 0 a1) (aR (uB s13 (fR s a0 0) (fI s a0 2) (nxt s)) (fR s13 a0 0) (fI s13 a0 2)) 1 a2) (aR (uB s13 (fR s a0 0) (fI s a0 2) (nxt s)) (fR s13 a0 0) (fI s13 a0 2)) 2 a3) (aR (uB s13 (fR s a0 0) (fI s a0 2) (nxt s)) (fR s13 a0 0) (fI s13 a0 2)) 3 2) (aR (uB s13 (fR s a0 0) (fI s a0 2) (nxt s)) (fR s13 a0 0) (fI s13 a0 2)) 4 2) (aR (uB s13 (fR s a0 0) (fI s a0 2) (nxt s)) (fR s13 a0 0) (fI s13 a0 2)) 5 a4) (qi fun r23 s22 => (r23 = 0 ∨ r23 = 1) ∧ (kl s22 (aR (uB s13 (fR s a0 0) (fI s a0 2) (nxt s)) (fR s13 a0 0) (fI s13 a0 2)) = 10) ∧ F (aR (uB s13 (fR s a0 0) (fI s a0 2) (nxt s)) (fR s13 a0 0) (fI s13 a0 2)) (uI s22 (aR (uB s13 (fR s a0 0) (fI s a0 2) (nxt s)) (fR s13 a0 0) (fI s13 a0 2)) 6 r23)))))) ∧ (le s (fR s a0 0) ≤ fI s a0 2 → (353 ≤ nxt s) ∧ (nxt s ≠ 2) ∧ ck iv L h0 d 224 [vr (nxt s)] (nO s 9) (qv fun s28 => (kl s28 (nxt s) = 10) ∧ ck iv L h0 d 225 [vr (nxt s)] (uR (uR (uR (uR (uI (uI s28 (nxt s) 0 a1) (nxt s) 1 a2) (nxt s) 2 a3) (nxt s) 3 2) (nxt s) 4 2) (nxt s) 5 a4) (qi fun r31 s30 => (r31 = 0 ∨ r31 = 1) ∧ (kl s30 (nxt s) = 10) ∧ F (nxt s) (uI s30 (nxt s) 6 r31)))))) : ck iv L h0 (d + 1) 195 [vr a0, vi a1, vi a2, vr a3, vr a4] s (qa F) := by
  show wk iv L h0 (d + 1) 195 0 [lr a0, li a1, li a2, lr a3, lr a4] [] s (qa F)
  refine w_aload_n rfl rfl ?_
  obtain ⟨g1, H⟩ := H
  refine c_get rfl rfl rfl g1 ?_
  refine w_aload_n rfl rfl ?_
  refine c_getr rfl rfl rfl g1 ?_
  obtain ⟨g2, H⟩ := H
  refine c_len rfl g2 ?_
  refine w_icmp_lt rfl (fun h => ?_) (fun h => ?_)
  · replace H := H.1 h
    refine w_aload_n rfl rfl ?_
    refine c_getr rfl rfl rfl g1 ?_
    refine w_aload_n rfl rfl ?_
    refine c_get rfl rfl rfl g1 ?_
    obtain ⟨g3, H⟩ := H
    obtain ⟨g4, H⟩ := H
    refine c_aald (t := 6) rfl ⟨g3, by decide, by decide⟩ g4 ?_
    refine c_nonnull rfl (fun h => ?_) (fun h => ?_)
    · replace H := H.1 h
      refine w_aload_n rfl rfl ?_
      refine c_getr rfl rfl rfl g1 ?_
      refine w_aload_n rfl rfl ?_
      refine w_dup rfl rfl ?_
      refine c_get rfl rfl rfl g1 ?_
      refine w_dup_x1 rfl rfl rfl ?_
      refine w_iconst (n := 1) rfl rfl ?_
      obtain ⟨g5, H⟩ := H
      refine w_iadd rfl g5 ?_
      refine c_put rfl rfl rfl rfl g1 ?_
      refine c_aald (t := 6) rfl ⟨g3, by decide, by decide⟩ g4 ?_
      show wk iv L h0 (d + 1) 195 68 [lr a0, li a1, li a2, lr a3, lr a4] [vr (aR s (fR s a0 0) (fI s a0 2))] (uI s a0 2 ((fI s a0 2) + 1)) (qa F)
      refine w_astore rfl rfl ?_
      refine w_aload rfl rfl ?_
      refine w_iload_n rfl rfl ?_
      obtain ⟨g6, H⟩ := H
      refine c_put rfl rfl rfl rfl g6 ?_
      refine w_aload rfl rfl ?_
      refine w_iload_n rfl rfl ?_
      refine c_put rfl rfl rfl rfl g6 ?_
      refine w_aload rfl rfl ?_
      refine w_aload_n rfl rfl ?_
      refine c_putr rfl rfl rfl rfl g6 ?_
      refine w_aload rfl rfl ?_
      refine w_null rfl ?_
      refine c_putr rfl rfl rfl rfl g6 ?_
      refine w_aload rfl rfl ?_
      refine w_null rfl ?_
      refine c_putr rfl rfl rfl rfl g6 ?_
      refine w_aload rfl rfl ?_
      refine w_aload rfl rfl ?_
      refine c_putr rfl rfl rfl rfl g6 ?_
      refine w_aload rfl rfl ?_
      refine w_aload rfl rfl ?_
      refine c_virt (p := (aR s (fR s a0 0) (fI s a0 2))) (as := []) (r := [vr (aR s (fR s a0 0) (fI s a0 2))]) rfl rfl rfl rfl rfl rfl g6 (wc_mono H (Nat.le_refl _) ?_)
      rintro _ s7 ⟨r8, rfl, H⟩
      show wk iv L h0 (d + 1) 195 114 [lr a0, li a1, li a2, lr a3, lr a4, lr (aR s (fR s a0 0) (fI s a0 2))] [vi r8, vr (aR s (fR s a0 0) (fI s a0 2))] s7 (qa F)
      obtain ⟨g9, H⟩ := H
      obtain ⟨g10, H⟩ := H
      refine c_putz rfl rfl rfl rfl g9 g10 ?_
      refine w_aload rfl rfl ?_
      exact w_aret rfl rfl ⟨_, rfl, H⟩
    · replace H := H.2 h
      refine w_aload_n rfl rfl ?_
      refine c_getr rfl rfl rfl g1 ?_
      refine w_aload_n rfl rfl ?_
      refine c_get rfl rfl rfl g1 ?_
      obtain ⟨g11, H⟩ := H
      refine c_new rfl rfl g11 ?_
      show wk iv L h0 (d + 1) 195 47 [lr a0, li a1, li a2, lr a3, lr a4] [vr (nxt s), vi (fI s a0 2), vr (fR s a0 0)] (nO s 9) (qa F)
      refine w_dup rfl rfl ?_
      obtain ⟨g12, H⟩ := H
      refine c_spec (p := (nxt s)) (as := []) (r := [vr (nxt s), vi (fI s a0 2), vr (fR s a0 0)]) rfl rfl rfl rfl rfl g12 (wc_mono H (Nat.le_refl _) ?_)
      rintro _ s13 ⟨rfl, H⟩
      show wk iv L h0 (d + 1) 195 51 [lr a0, li a1, li a2, lr a3, lr a4] [vr (nxt s), vi (fI s a0 2), vr (fR s a0 0)] s13 (qa F)
      obtain ⟨g14, H⟩ := H
      obtain ⟨g15, H⟩ := H
      obtain ⟨g16, H⟩ := H
      refine c_aast rfl rfl g14 g15 (by rcases g16 with e | e; exact Or.inl e; exact Or.inr ⟨e, by decide⟩) ?_
      refine w_aload_n rfl rfl ?_
      obtain ⟨g17, H⟩ := H
      refine c_getr rfl rfl rfl g17 ?_
      show wk iv L h0 (d + 1) 195 56 [lr a0, li a1, li a2, lr a3, lr a4] [vr (fR s13 a0 0)] (uB s13 (fR s a0 0) (fI s a0 2) (nxt s)) (qa F)
      refine w_aload_n rfl rfl ?_
      refine w_dup rfl rfl ?_
      refine c_get rfl rfl rfl g17 ?_
      show wk iv L h0 (d + 1) 195 61 [lr a0, li a1, li a2, lr a3, lr a4] [vi (fI s13 a0 2), vr a0, vr (fR s13 a0 0)] (uB s13 (fR s a0 0) (fI s a0 2) (nxt s)) (qa F)
      refine w_dup_x1 rfl rfl rfl ?_
      refine w_iconst (n := 1) rfl rfl ?_
      obtain ⟨g18, H⟩ := H
      refine w_iadd rfl g18 ?_
      refine c_put rfl rfl rfl rfl g17 ?_
      obtain ⟨g19, H⟩ := H
      obtain ⟨g20, H⟩ := H
      refine c_aald (t := 6) rfl ⟨g19, by decide, by decide⟩ g20 ?_
      show wk iv L h0 (d + 1) 195 68 [lr a0, li a1, li a2, lr a3, lr a4] [vr (aR (uB s13 (fR s a0 0) (fI s a0 2) (nxt s)) (fR s13 a0 0) (fI s13 a0 2))] (uI (uB s13 (fR s a0 0) (fI s a0 2) (nxt s)) a0 2 ((fI s13 a0 2) + 1)) (qa F)
      refine w_astore rfl rfl ?_
      refine w_aload rfl rfl ?_
      refine w_iload_n rfl rfl ?_
      obtain ⟨g21, H⟩ := H
      refine c_put rfl rfl rfl rfl g21 ?_
      refine w_aload rfl rfl ?_
      refine w_iload_n rfl rfl ?_
      refine c_put rfl rfl rfl rfl g21 ?_
      refine w_aload rfl rfl ?_
      refine w_aload_n rfl rfl ?_
      refine c_putr rfl rfl rfl rfl g21 ?_
      refine w_aload rfl rfl ?_
      refine w_null rfl ?_
      refine c_putr rfl rfl rfl rfl g21 ?_
      refine w_aload rfl rfl ?_
      refine w_null rfl ?_
      refine c_putr rfl rfl rfl rfl g21 ?_
      refine w_aload rfl rfl ?_
      refine w_aload rfl rfl ?_
      refine c_putr rfl rfl rfl rfl g21 ?_
      refine w_aload rfl rfl ?_
      refine w_aload rfl rfl ?_
      refine c_virt (p := (aR (uB s13 (fR s a0 0) (fI s a0 2) (nxt s)) (fR s13 a0 0) (fI s13 a0 2))) (as := []) (r := [vr (aR (uB s13 (fR s a0 0) (fI s a0 2) (nxt s)) (fR s13 a0 0) (fI s13 a0 2))]) rfl rfl rfl rfl rfl rfl g21 (wc_mono H (Nat.le_refl _) ?_)
      rintro _ s22 ⟨r23, rfl, H⟩
      show wk iv L h0 (d + 1) 195 114 [lr a0, li a1, li a2, lr a3, lr a4, lr (aR (uB s13 (fR s a0 0) (fI s a0 2) (nxt s)) (fR s13 a0 0) (fI s13 a0 2))] [vi r23, vr (aR (uB s13 (fR s a0 0) (fI s a0 2) (nxt s)) (fR s13 a0 0) (fI s13 a0 2))] s22 (qa F)
      obtain ⟨g24, H⟩ := H
      obtain ⟨g25, H⟩ := H
      refine c_putz rfl rfl rfl rfl g24 g25 ?_
      refine w_aload rfl rfl ?_
      exact w_aret rfl rfl ⟨_, rfl, H⟩
  · replace H := H.2 h
    obtain ⟨g26, H⟩ := H
    refine c_new rfl rfl g26 ?_
    show wk iv L h0 (d + 1) 195 15 [lr a0, li a1, li a2, lr a3, lr a4] [vr (nxt s)] (nO s 9) (qa F)
    refine w_dup rfl rfl ?_
    obtain ⟨g27, H⟩ := H
    refine c_spec (p := (nxt s)) (as := []) (r := [vr (nxt s)]) rfl rfl rfl rfl rfl g27 (wc_mono H (Nat.le_refl _) ?_)
    rintro _ s28 ⟨rfl, H⟩
    show wk iv L h0 (d + 1) 195 19 [lr a0, li a1, li a2, lr a3, lr a4] [vr (nxt s)] s28 (qa F)
    refine w_astore rfl rfl ?_
    refine w_goto rfl ?_
    refine w_aload rfl rfl ?_
    refine w_iload_n rfl rfl ?_
    obtain ⟨g29, H⟩ := H
    refine c_put rfl rfl rfl rfl g29 ?_
    refine w_aload rfl rfl ?_
    refine w_iload_n rfl rfl ?_
    refine c_put rfl rfl rfl rfl g29 ?_
    refine w_aload rfl rfl ?_
    refine w_aload_n rfl rfl ?_
    refine c_putr rfl rfl rfl rfl g29 ?_
    refine w_aload rfl rfl ?_
    refine w_null rfl ?_
    refine c_putr rfl rfl rfl rfl g29 ?_
    refine w_aload rfl rfl ?_
    refine w_null rfl ?_
    refine c_putr rfl rfl rfl rfl g29 ?_
    refine w_aload rfl rfl ?_
    refine w_aload rfl rfl ?_
    refine c_putr rfl rfl rfl rfl g29 ?_
    refine w_aload rfl rfl ?_
    refine w_aload rfl rfl ?_
    refine c_virt (p := (nxt s)) (as := []) (r := [vr (nxt s)]) rfl rfl rfl rfl rfl rfl g29 (wc_mono H (Nat.le_refl _) ?_)
    rintro _ s30 ⟨r31, rfl, H⟩
    show wk iv L h0 (d + 1) 195 114 [lr a0, li a1, li a2, lr a3, lr a4, lr (nxt s)] [vi r31, vr (nxt s)] s30 (qa F)
    obtain ⟨g32, H⟩ := H
    obtain ⟨g33, H⟩ := H
    refine c_putz rfl rfl rfl rfl g32 g33 ?_
    refine w_aload rfl rfl ?_
    exact w_aret rfl rfl ⟨_, rfl, H⟩

/-- HoleDesk$Pool.plain(II)LHoleDesk$Value; -/
theorem C196 {iv : List (Int × Int)} {L : Nat} {h0 : MH} {d : Nat} {s : SC} {a0 : Nat} {a1 : Int} {a2 : Int} {F : Nat → SC → Prop} (H : (kl s a0 = 6) ∧ ck iv L h0 d 195 [vr a0, vi a1, vi a2, vr 2, vr 2] s (qa fun r3 s2 => F r3 s2)) : ck iv L h0 (d + 1) 196 [vr a0, vi a1, vi a2] s (qa F) := by
  show wk iv L h0 (d + 1) 196 0 [lr a0, li a1, li a2] [] s (qa F)
  refine w_aload_n rfl rfl ?_
  refine w_iload_n rfl rfl ?_
  refine w_iload_n rfl rfl ?_
  refine w_null rfl ?_
  refine w_null rfl ?_
  obtain ⟨g1, H⟩ := H
  refine c_virt (p := a0) (as := [vi a1, vi a2, vr 2, vr 2]) (r := []) rfl rfl rfl rfl rfl rfl g1 (wc_mono H (Nat.le_refl _) ?_)
  rintro _ s2 ⟨r3, rfl, H⟩
  show wk iv L h0 (d + 1) 196 8 [lr a0, li a1, li a2] [vr r3] s2 (qa F)
  exact w_aret rfl rfl ⟨_, rfl, H⟩

/-- HoleDesk$Pool.seeing(ILHoleDesk$Node;LHoleDesk$Seen;)LHoleDesk$Value; -/
theorem C197 {iv : List (Int × Int)} {L : Nat} {h0 : MH} {d : Nat} {s : SC} {a0 : Nat} {a1 : Int} {a2 : Nat} {a3 : Nat} {F : Nat → SC → Prop} (H : (kl s a0 = 6) ∧ ck iv L h0 d 195 [vr a0, vi a1, vi 0, vr a2, vr a3] s (qa fun r3 s2 => F r3 s2)) : ck iv L h0 (d + 1) 197 [vr a0, vi a1, vr a2, vr a3] s (qa F) := by
  show wk iv L h0 (d + 1) 197 0 [lr a0, li a1, lr a2, lr a3] [] s (qa F)
  refine w_aload_n rfl rfl ?_
  refine w_iload_n rfl rfl ?_
  refine w_iconst (n := 0) rfl rfl ?_
  refine w_aload_n rfl rfl ?_
  refine w_aload_n rfl rfl ?_
  obtain ⟨g1, H⟩ := H
  refine c_virt (p := a0) (as := [vi a1, vi 0, vr a2, vr a3]) (r := []) rfl rfl rfl rfl rfl rfl g1 (wc_mono H (Nat.le_refl _) ?_)
  rintro _ s2 ⟨r3, rfl, H⟩
  show wk iv L h0 (d + 1) 197 8 [lr a0, li a1, lr a2, lr a3] [vr r3] s2 (qa F)
  exact w_aret rfl rfl ⟨_, rfl, H⟩

/-- HoleDesk$Pool.couple(LHoleDesk$Value;LHoleDesk$Value;)LHoleDesk$Value; -/
theorem C198 {iv : List (Int × Int)} {L : Nat} {h0 : MH} {d : Nat} {s : SC} {a0 : Nat} {a1 : Nat} {a2 : Nat} {F : Nat → SC → Prop} (H : (kl s a0 = 6) ∧ ck iv L h0 d 195 [vr a0, vi 3, vi 0, vr 2, vr 2] s (qa fun r3 s2 => (kl s2 r3 = 10) ∧ (kl s2 a1 = 10) ∧ ((fI s2 a1 6 ≠ 0 → F r3 (uI (uR (uR s2 r3 3 a1) r3 4 a2) r3 6 1)) ∧ (fI s2 a1 6 = 0 → (kl s2 a2 = 10) ∧ ((fI s2 a2 6 = 0 → F r3 (uI (uR (uR s2 r3 3 a1) r3 4 a2) r3 6 0)) ∧ (fI s2 a2 6 ≠ 0 → F r3 (uI (uR (uR s2 r3 3 a1) r3 4 a2) r3 6 1))))))) : ck iv L h0 (d + 1) 198 [vr a0, vr a1, vr a2] s (qa F) := by
  show wk iv L h0 (d + 1) 198 0 [lr a0, lr a1, lr a2] [] s (qa F)
  refine w_aload_n rfl rfl ?_
  refine w_iconst (n := 3) rfl rfl ?_
  refine w_iconst (n := 0) rfl rfl ?_
  refine w_null rfl ?_
  refine w_null rfl ?_
  obtain ⟨g1, H⟩ := H
  refine c_virt (p := a0) (as := [vi 3, vi 0, vr 2, vr 2]) (r := []) rfl rfl rfl rfl rfl rfl g1 (wc_mono H (Nat.le_refl _) ?_)
  rintro _ s2 ⟨r3, rfl, H⟩
  show wk iv L h0 (d + 1) 198 8 [lr a0, lr a1, lr a2] [vr r3] s2 (qa F)
  refine w_astore_n rfl rfl ?_
  refine w_aload_n rfl rfl ?_
  refine w_aload_n rfl rfl ?_
  obtain ⟨g4, H⟩ := H
  refine c_putr rfl rfl rfl rfl g4 ?_
  refine w_aload_n rfl rfl ?_
  refine w_aload_n rfl rfl ?_
  refine c_putr rfl rfl rfl rfl g4 ?_
  refine w_aload_n rfl rfl ?_
  refine w_aload_n rfl rfl ?_
  obtain ⟨g5, H⟩ := H
  refine c_get rfl rfl rfl g5 ?_
  show wk iv L h0 (d + 1) 198 24 [lr a0, lr a1, lr a2, lr r3] [vi (fI s2 a1 6), vr r3] (uR (uR s2 r3 3 a1) r3 4 a2) (qa F)
  refine w_if_ne rfl (fun h => ?_) (fun h => ?_)
  · replace H := H.1 h
    refine w_iconst (n := 1) rfl rfl ?_
    refine w_goto rfl ?_
    refine c_putz rfl rfl rfl rfl (by decide) g4 ?_
    refine w_aload_n rfl rfl ?_
    exact w_aret rfl rfl ⟨_, rfl, H⟩
  · replace H := H.2 h
    refine w_aload_n rfl rfl ?_
    obtain ⟨g6, H⟩ := H
    refine c_get rfl rfl rfl g6 ?_
    show wk iv L h0 (d + 1) 198 31 [lr a0, lr a1, lr a2, lr r3] [vi (fI s2 a2 6), vr r3] (uR (uR s2 r3 3 a1) r3 4 a2) (qa F)
    refine w_if_eq rfl (fun h => ?_) (fun h => ?_)
    · replace H := H.1 h
      refine w_iconst (n := 0) rfl rfl ?_
      refine c_putz rfl rfl rfl rfl (by decide) g4 ?_
      refine w_aload_n rfl rfl ?_
      exact w_aret rfl rfl ⟨_, rfl, H⟩
    · replace H := H.2 h
      refine w_iconst (n := 1) rfl rfl ?_
      refine w_goto rfl ?_
      refine c_putz rfl rfl rfl rfl (by decide) g4 ?_
      refine w_aload_n rfl rfl ?_
      exact w_aret rfl rfl ⟨_, rfl, H⟩

/-- HoleDesk$Pool.framed(LHoleDesk$Value;)LHoleDesk$Value; -/
theorem C199 {iv : List (Int × Int)} {L : Nat} {h0 : MH} {d : Nat} {s : SC} {a0 : Nat} {a1 : Nat} {F : Nat → SC → Prop} (H : (kl s a0 = 6) ∧ ck iv L h0 d 195 [vr a0, vi 6, vi 0, vr 2, vr 2] s (qa fun r3 s2 => (kl s2 r3 = 10) ∧ F r3 (uR s2 r3 3 a1))) : ck iv L h0 (d + 1) 199 [vr a0, vr a1] s (qa F) := by
  show wk iv L h0 (d + 1) 199 0 [lr a0, lr a1] [] s (qa F)
  refine w_aload_n rfl rfl ?_
  refine w_bipush (n := 6) rfl rfl rfl ?_
  refine w_iconst (n := 0) rfl rfl ?_
  refine w_null rfl ?_
  refine w_null rfl ?_
  obtain ⟨g1, H⟩ := H
  refine c_virt (p := a0) (as := [vi 6, vi 0, vr 2, vr 2]) (r := []) rfl rfl rfl rfl rfl rfl g1 (wc_mono H (Nat.le_refl _) ?_)
  rintro _ s2 ⟨r3, rfl, H⟩
  show wk iv L h0 (d + 1) 199 9 [lr a0, lr a1] [vr r3] s2 (qa F)
  refine w_astore_n rfl rfl ?_
  refine w_aload_n rfl rfl ?_
  refine w_aload_n rfl rfl ?_
  obtain ⟨g4, H⟩ := H
  refine c_putr rfl rfl rfl rfl g4 ?_
  refine w_aload_n rfl rfl ?_
  exact w_aret rfl rfl ⟨_, rfl, H⟩

/-- HoleDesk$Pool.act(LHoleDesk$Node;LHoleDesk$Value;LHoleDesk$Value;LHoleDesk$Seen;)LHoleDesk$Value; -/
theorem C200 {iv : List (Int × Int)} {L : Nat} {h0 : MH} {d : Nat} {s : SC} {a0 : Nat} {a1 : Nat} {a2 : Nat} {a3 : Nat} {a4 : Nat} {F : Nat → SC → Prop} (H : (kl s a0 = 6) ∧ ck iv L h0 d 195 [vr a0, vi 7, vi 0, vr a1, vr a4] s (qa fun r3 s2 => (kl s2 r3 = 10) ∧ F r3 (uR (uR s2 r3 3 a2) r3 4 a3))) : ck iv L h0 (d + 1) 200 [vr a0, vr a1, vr a2, vr a3, vr a4] s (qa F) := by
  show wk iv L h0 (d + 1) 200 0 [lr a0, lr a1, lr a2, lr a3, lr a4] [] s (qa F)
  refine w_aload_n rfl rfl ?_
  refine w_bipush (n := 7) rfl rfl rfl ?_
  refine w_iconst (n := 0) rfl rfl ?_
  refine w_aload_n rfl rfl ?_
  refine w_aload rfl rfl ?_
  obtain ⟨g1, H⟩ := H
  refine c_virt (p := a0) (as := [vi 7, vi 0, vr a1, vr a4]) (r := []) rfl rfl rfl rfl rfl rfl g1 (wc_mono H (Nat.le_refl _) ?_)
  rintro _ s2 ⟨r3, rfl, H⟩
  show wk iv L h0 (d + 1) 200 10 [lr a0, lr a1, lr a2, lr a3, lr a4] [vr r3] s2 (qa F)
  refine w_astore rfl rfl ?_
  refine w_aload rfl rfl ?_
  refine w_aload_n rfl rfl ?_
  obtain ⟨g4, H⟩ := H
  refine c_putr rfl rfl rfl rfl g4 ?_
  refine w_aload rfl rfl ?_
  refine w_aload_n rfl rfl ?_
  refine c_putr rfl rfl rfl rfl g4 ?_
  refine w_aload rfl rfl ?_
  exact w_aret rfl rfl ⟨_, rfl, H⟩

/-- HoleDesk$Pool.bind(ILHoleDesk$Value;LHoleDesk$Seen;)LHoleDesk$Seen; -/
theorem C201 {iv : List (Int × Int)} {L : Nat} {h0 : MH} {d : Nat} {s : SC} {a0 : Nat} {a1 : Int} {a2 : Nat} {a3 : Nat} {F : Nat → SC → Prop} (H : (kl s a0 = 6) ∧ (100 ≤ kl s (fR s a0 1) ∧ kl s (fR s a0 1) < 108) ∧ ((fI s a0 3 < le s (fR s a0 1) → (kl s (fR s a0 1) = 107) ∧ (0 ≤ fI s a0 3 ∧ fI s a0 3 < le s (fR s a0 1)) ∧ ((aR s (fR s a0 1) (fI s a0 3) ≠ 2 → (-2147483648 ≤ (fI s a0 3) + 1 ∧ (fI s a0 3) + 1 ≤ 2147483647) ∧ (kl s (aR s (fR s a0 1) (fI s a0 3)) = 7) ∧ F (aR s (fR s a0 1) (fI s a0 3)) (uR (uR (uI (uI s a0 3 ((fI s a0 3) + 1)) (aR s (fR s a0 1) (fI s a0 3)) 0 a1) (aR s (fR s a0 1) (fI s a0 3)) 1 a2) (aR s (fR s a0 1) (fI s a0 3)) 2 a3)) ∧ (aR s (fR s a0 1) (fI s a0 3) = 2 → (353 ≤ nxt s) ∧ (nxt s ≠ 2) ∧ ck iv L h0 d 202 [vr (nxt s)] (nO s 6) (qv fun s9 => (kl s9 (fR s a0 1) = 107) ∧ (0 ≤ fI s a0 3 ∧ fI s a0 3 < le s9 (fR s a0 1)) ∧ (nxt s = 2 ∨ kl s9 (nxt s) = 7) ∧ (kl s9 a0 = 6) ∧ (-2147483648 ≤ (fI s9 a0 3) + 1 ∧ (fI s9 a0 3) + 1 ≤ 2147483647) ∧ (kl s9 (fR s9 a0 1) = 107) ∧ (0 ≤ fI s9 a0 3 ∧ fI s9 a0 3 < le s9 (fR s9 a0 1)) ∧ (kl s9 (aR (uB s9 (fR s a0 1) (fI s a0 3) (nxt s)) (fR s9 a0 1) (fI s9 a0 3)) = 7) ∧ F (aR (uB s9 (fR s a0 1) (fI s a0 3) (nxt s)) (fR s9 a0 1) (fI s9 a0 3)) (uR (uR (uI (uI (uB s9 (fR s a0 1) (fI s a0 3) (nxt s)) a0 3 ((fI s9 a0 3) + 1)) (aR (uB s9 (fR s a0 1) (fI s a0 3) (nxt s)) (fR s9 a0 1) (fI s9 a0 3)) 0 a1) (aR (uB s9 (fR s a0 1) (fI s a0 3) (nxt s)) (fR s9 a0 1) (fI s9 a0 3)) 1 a2) (aR (uB s9 (fR s a0 1) (fI s a0 3) (nxt s)) (fR s9 a0 1) (fI s9 a0 3)) 2 a3))))) ∧ (le s (fR s a0 1) ≤ fI s a0 3 → (353 ≤ nxt s) ∧ (nxt s ≠ 2) ∧ ck iv L h0 d 202 [vr (nxt s)] (nO s 6) (qv fun s20 => (kl s20 (nxt s) = 7) ∧ F (nxt s) (uR (uR (uI s20 (nxt s) 0 a1) (nxt s) 1 a2) (nxt s) 2 a3))))) : ck iv L h0 (d + 1) 201 [vr a0, vi a1, vr a2, vr a3] s (qa F) := by
  show wk iv L h0 (d + 1) 201 0 [lr a0, li a1, lr a2, lr a3] [] s (qa F)
  refine w_aload_n rfl rfl ?_
  obtain ⟨g1, H⟩ := H
  refine c_get rfl rfl rfl g1 ?_
  refine w_aload_n rfl rfl ?_
  refine c_getr rfl rfl rfl g1 ?_
  obtain ⟨g2, H⟩ := H
  refine c_len rfl g2 ?_
  refine w_icmp_lt rfl (fun h => ?_) (fun h => ?_)
  · replace H := H.1 h
    refine w_aload_n rfl rfl ?_
    refine c_getr rfl rfl rfl g1 ?_
    refine w_aload_n rfl rfl ?_
    refine c_get rfl rfl rfl g1 ?_
    obtain ⟨g3, H⟩ := H
    obtain ⟨g4, H⟩ := H
    refine c_aald (t := 7) rfl ⟨g3, by decide, by decide⟩ g4 ?_
    refine c_nonnull rfl (fun h => ?_) (fun h => ?_)
    · replace H := H.1 h
      refine w_aload_n rfl rfl ?_
      refine c_getr rfl rfl rfl g1 ?_
      refine w_aload_n rfl rfl ?_
      refine w_dup rfl rfl ?_
      refine c_get rfl rfl rfl g1 ?_
      refine w_dup_x1 rfl rfl rfl ?_
      refine w_iconst (n := 1) rfl rfl ?_
      obtain ⟨g5, H⟩ := H
      refine w_iadd rfl g5 ?_
      refine c_put rfl rfl rfl rfl g1 ?_
      refine c_aald (t := 7) rfl ⟨g3, by decide, by decide⟩ g4 ?_
      show wk iv L h0 (d + 1) 201 68 [lr a0, li a1, lr a2, lr a3] [vr (aR s (fR s a0 1) (fI s a0 3))] (uI s a0 3 ((fI s a0 3) + 1)) (qa F)
      refine w_astore rfl rfl ?_
      refine w_aload rfl rfl ?_
      refine w_iload_n rfl rfl ?_
      obtain ⟨g6, H⟩ := H
      refine c_put rfl rfl rfl rfl g6 ?_
      refine w_aload rfl rfl ?_
      refine w_aload_n rfl rfl ?_
      refine c_putr rfl rfl rfl rfl g6 ?_
      refine w_aload rfl rfl ?_
      refine w_aload_n rfl rfl ?_
      refine c_putr rfl rfl rfl rfl g6 ?_
      refine w_aload rfl rfl ?_
      exact w_aret rfl rfl ⟨_, rfl, H⟩
    · replace H := H.2 h
      refine w_aload_n rfl rfl ?_
      refine c_getr rfl rfl rfl g1 ?_
      refine w_aload_n rfl rfl ?_
      refine c_get rfl rfl rfl g1 ?_
      obtain ⟨g7, H⟩ := H
      refine c_new rfl rfl g7 ?_
      show wk iv L h0 (d + 1) 201 47 [lr a0, li a1, lr a2, lr a3] [vr (nxt s), vi (fI s a0 3), vr (fR s a0 1)] (nO s 6) (qa F)
      refine w_dup rfl rfl ?_
      obtain ⟨g8, H⟩ := H
      refine c_spec (p := (nxt s)) (as := []) (r := [vr (nxt s), vi (fI s a0 3), vr (fR s a0 1)]) rfl rfl rfl rfl rfl g8 (wc_mono H (Nat.le_refl _) ?_)
      rintro _ s9 ⟨rfl, H⟩
      show wk iv L h0 (d + 1) 201 51 [lr a0, li a1, lr a2, lr a3] [vr (nxt s), vi (fI s a0 3), vr (fR s a0 1)] s9 (qa F)
      obtain ⟨g10, H⟩ := H
      obtain ⟨g11, H⟩ := H
      obtain ⟨g12, H⟩ := H
      refine c_aast rfl rfl g10 g11 (by rcases g12 with e | e; exact Or.inl e; exact Or.inr ⟨e, by decide⟩) ?_
      refine w_aload_n rfl rfl ?_
      obtain ⟨g13, H⟩ := H
      refine c_getr rfl rfl rfl g13 ?_
      show wk iv L h0 (d + 1) 201 56 [lr a0, li a1, lr a2, lr a3] [vr (fR s9 a0 1)] (uB s9 (fR s a0 1) (fI s a0 3) (nxt s)) (qa F)
      refine w_aload_n rfl rfl ?_
      refine w_dup rfl rfl ?_
      refine c_get rfl rfl rfl g13 ?_
      show wk iv L h0 (d + 1) 201 61 [lr a0, li a1, lr a2, lr a3] [vi (fI s9 a0 3), vr a0, vr (fR s9 a0 1)] (uB s9 (fR s a0 1) (fI s a0 3) (nxt s)) (qa F)
      refine w_dup_x1 rfl rfl rfl ?_
      refine w_iconst (n := 1) rfl rfl ?_
      obtain ⟨g14, H⟩ := H
      refine w_iadd rfl g14 ?_
      refine c_put rfl rfl rfl rfl g13 ?_
      obtain ⟨g15, H⟩ := H
      obtain ⟨g16, H⟩ := H
      refine c_aald (t := 7) rfl ⟨g15, by decide, by decide⟩ g16 ?_
      show wk iv L h0 (d + 1) 201 68 [lr a0, li a1, lr a2, lr a3] [vr (aR (uB s9 (fR s a0 1) (fI s a0 3) (nxt s)) (fR s9 a0 1) (fI s9 a0 3))] (uI (uB s9 (fR s a0 1) (fI s a0 3) (nxt s)) a0 3 ((fI s9 a0 3) + 1)) (qa F)
      refine w_astore rfl rfl ?_
      refine w_aload rfl rfl ?_
      refine w_iload_n rfl rfl ?_
      obtain ⟨g17, H⟩ := H
      refine c_put rfl rfl rfl rfl g17 ?_
      refine w_aload rfl rfl ?_
      refine w_aload_n rfl rfl ?_
      refine c_putr rfl rfl rfl rfl g17 ?_
      refine w_aload rfl rfl ?_
      refine w_aload_n rfl rfl ?_
      refine c_putr rfl rfl rfl rfl g17 ?_
      refine w_aload rfl rfl ?_
      exact w_aret rfl rfl ⟨_, rfl, H⟩
  · replace H := H.2 h
    obtain ⟨g18, H⟩ := H
    refine c_new rfl rfl g18 ?_
    show wk iv L h0 (d + 1) 201 15 [lr a0, li a1, lr a2, lr a3] [vr (nxt s)] (nO s 6) (qa F)
    refine w_dup rfl rfl ?_
    obtain ⟨g19, H⟩ := H
    refine c_spec (p := (nxt s)) (as := []) (r := [vr (nxt s)]) rfl rfl rfl rfl rfl g19 (wc_mono H (Nat.le_refl _) ?_)
    rintro _ s20 ⟨rfl, H⟩
    show wk iv L h0 (d + 1) 201 19 [lr a0, li a1, lr a2, lr a3] [vr (nxt s)] s20 (qa F)
    refine w_astore rfl rfl ?_
    refine w_goto rfl ?_
    refine w_aload rfl rfl ?_
    refine w_iload_n rfl rfl ?_
    obtain ⟨g21, H⟩ := H
    refine c_put rfl rfl rfl rfl g21 ?_
    refine w_aload rfl rfl ?_
    refine w_aload_n rfl rfl ?_
    refine c_putr rfl rfl rfl rfl g21 ?_
    refine w_aload rfl rfl ?_
    refine w_aload_n rfl rfl ?_
    refine c_putr rfl rfl rfl rfl g21 ?_
    refine w_aload rfl rfl ?_
    exact w_aret rfl rfl ⟨_, rfl, H⟩

/-- HoleDesk$Seen.<init>()V -/
theorem C202 {iv : List (Int × Int)} {L : Nat} {h0 : MH} {d : Nat} {s : SC} {a0 : Nat} {F : SC → Prop} (H : (a0 ≠ 2) ∧ (kl s a0 = 7) ∧ F (uR (uR (uI s a0 0 0) a0 1 2) a0 2 2)) : ck iv L h0 d 202 [vr a0] s (qv F) := by
  show wk iv L h0 d 202 0 [lr a0] [] s (qv F)
  refine w_aload_n rfl rfl ?_
  obtain ⟨g1, H⟩ := H
  refine c_oinit rfl rfl g1 ?_
  refine w_aload_n rfl rfl ?_
  refine w_iconst (n := 0) rfl rfl ?_
  obtain ⟨g2, H⟩ := H
  refine c_put rfl rfl rfl rfl g2 ?_
  refine w_aload_n rfl rfl ?_
  refine w_null rfl ?_
  refine c_putr rfl rfl rfl rfl g2 ?_
  refine w_aload_n rfl rfl ?_
  refine w_null rfl ?_
  refine c_putr rfl rfl rfl rfl g2 ?_
  exact w_ret rfl rfl ⟨rfl, H⟩

/-- HoleDesk$Sheet.<init>()V -/
theorem C203 {iv : List (Int × Int)} {L : Nat} {h0 : MH} {d : Nat} {s : SC} {a0 : Nat} {F : SC → Prop} (H : (a0 ≠ 2) ∧ (353 ≤ nxt s) ∧ (kl (nA s 3 60) a0 = 8) ∧ (353 ≤ nxt s + 1) ∧ (kl (nA (nA s 3 60) 4 20) a0 = 8) ∧ ck iv L h0 d 204 [vr a0, vi 0, vi (-9), vi (-9)] (uI (uI (uR (nA (uI (uI (uR (nA s 3 60) a0 0 (nxt s)) a0 3 0) a0 4 0) 4 20) a0 5 (nxt s + 1)) a0 6 0) a0 7 0) (qa fun r7 s6 => (kl s6 a0 = 8) ∧ ck iv L h0 d 206 [vr a0] (uR (uR s6 a0 1 r7) a0 2 (fR (uR s6 a0 1 r7) a0 1)) (qv fun s9 => wk iv L h0 (d + 1) 203 69 [lr a0, li 0] [] s9 (qv F)))) : ck iv L h0 (d + 1) 203 [vr a0] s (qv F) := by
  show wk iv L h0 (d + 1) 203 0 [lr a0] [] s (qv F)
  refine w_aload_n rfl rfl ?_
  obtain ⟨g1, H⟩ := H
  refine c_oinit rfl rfl g1 ?_
  refine w_aload_n rfl rfl ?_
  refine w_bipush (n := 60) rfl rfl rfl ?_
  obtain ⟨g2, H⟩ := H
  refine c_anewa rfl rfl ⟨by decide, by decide⟩ g2 ?_
  show wk iv L h0 (d + 1) 203 10 [lr a0] [vr (nxt s), vr a0] (nA s 3 60) (qv F)
  obtain ⟨g3, H⟩ := H
  refine c_putr rfl rfl rfl rfl g3 ?_
  refine w_aload_n rfl rfl ?_
  refine w_iconst (n := 0) rfl rfl ?_
  refine c_put rfl rfl rfl rfl g3 ?_
  refine w_aload_n rfl rfl ?_
  refine w_iconst (n := 0) rfl rfl ?_
  refine c_put rfl rfl rfl rfl g3 ?_
  refine w_aload_n rfl rfl ?_
  refine w_bipush (n := 20) rfl rfl rfl ?_
  obtain ⟨g4, H⟩ := H
  refine c_anewa rfl rfl ⟨by decide, by decide⟩ g4 ?_
  show wk iv L h0 (d + 1) 203 29 [lr a0] [vr (nxt s + 1), vr a0] (nA (uI (uI (uR (nA s 3 60) a0 0 (nxt s)) a0 3 0) a0 4 0) 4 20) (qv F)
  obtain ⟨g5, H⟩ := H
  refine c_putr rfl rfl rfl rfl g5 ?_
  refine w_aload_n rfl rfl ?_
  refine w_iconst (n := 0) rfl rfl ?_
  refine c_put rfl rfl rfl rfl g5 ?_
  refine w_aload_n rfl rfl ?_
  refine w_iconst (n := 0) rfl rfl ?_
  refine c_put rfl rfl rfl rfl g5 ?_
  refine w_aload_n rfl rfl ?_
  refine w_aload_n rfl rfl ?_
  refine w_iconst (n := 0) rfl rfl ?_
  refine w_bipush (n := (-9)) rfl rfl rfl ?_
  refine w_bipush (n := (-9)) rfl rfl rfl ?_
  refine c_virt (p := a0) (as := [vi 0, vi (-9), vi (-9)]) (r := [vr a0]) rfl rfl rfl rfl rfl rfl g5 (wc_mono H (Nat.le_refl _) ?_)
  rintro _ s6 ⟨r7, rfl, H⟩
  show wk iv L h0 (d + 1) 203 52 [lr a0] [vr r7, vr a0] s6 (qv F)
  obtain ⟨g8, H⟩ := H
  refine c_putr rfl rfl rfl rfl g8 ?_
  refine w_aload_n rfl rfl ?_
  refine w_aload_n rfl rfl ?_
  refine c_getr rfl rfl rfl g8 ?_
  show wk iv L h0 (d + 1) 203 60 [lr a0] [vr (fR (uR s6 a0 1 r7) a0 1), vr a0] (uR s6 a0 1 r7) (qv F)
  refine c_putr rfl rfl rfl rfl g8 ?_
  refine w_aload_n rfl rfl ?_
  refine c_virt (p := a0) (as := []) (r := []) rfl rfl rfl rfl rfl rfl g8 (wc_mono H (Nat.le_refl _) ?_)
  rintro _ s9 ⟨rfl, H⟩
  show wk iv L h0 (d + 1) 203 67 [lr a0] [] s9 (qv F)
  refine w_iconst (n := 0) rfl rfl ?_
  refine w_istore_n rfl rfl ?_
  exact wp_ls (sl_s (sl_s (sl_0))) H

/-- HoleDesk$Sheet.<init>()V at 69 -/
theorem C203_69 {iv : List (Int × Int)} {L : Nat} {h0 : MH} {d : Nat} {s : SC} {l0 : Nat} {l1 : Int} {F : SC → Prop} (H : ((20 ≤ l1 → F s) ∧ (l1 < 20 → (kl s l0 = 8) ∧ (353 ≤ nxt s) ∧ (nxt s ≠ 2) ∧ ck iv L h0 d 221 [vr (nxt s)] (nO s 8) (qv fun s4 => (kl s4 (fR s l0 5) = 104) ∧ (0 ≤ l1 ∧ l1 < le s4 (fR s l0 5)) ∧ (nxt s = 2 ∨ kl s4 (nxt s) = 9) ∧ (-2147483648 ≤ l1 + 1 ∧ l1 + 1 ≤ 2147483647) ∧ wk iv L h0 (d + 1) 203 69 [lr l0, li (l1 + 1)] [] (uB s4 (fR s l0 5) l1 (nxt s)) (qv F))))) : wk iv L h0 (d + 1) 203 69 [lr l0, li l1] [] s (qv F) := by
  refine w_iload_n rfl rfl ?_
  refine w_bipush (n := 20) rfl rfl rfl ?_
  refine w_icmp_ge rfl (fun h => ?_) (fun h => ?_)
  · replace H := H.1 h
    exact w_ret rfl rfl ⟨rfl, H⟩
  · replace H := H.2 h
    refine w_aload_n rfl rfl ?_
    obtain ⟨g1, H⟩ := H
    refine c_getr rfl rfl rfl g1 ?_
    refine w_iload_n rfl rfl ?_
    obtain ⟨g2, H⟩ := H
    refine c_new rfl rfl g2 ?_
    show wk iv L h0 (d + 1) 203 83 [lr l0, li l1] [vr (nxt s), vi l1, vr (fR s l0 5)] (nO s 8) (qv F)
    refine w_dup rfl rfl ?_
    obtain ⟨g3, H⟩ := H
    refine c_spec (p := (nxt s)) (as := []) (r := [vr (nxt s), vi l1, vr (fR s l0 5)]) rfl rfl rfl rfl rfl g3 (wc_mono H (Nat.le_refl _) ?_)
    rintro _ s4 ⟨rfl, H⟩
    show wk iv L h0 (d + 1) 203 87 [lr l0, li l1] [vr (nxt s), vi l1, vr (fR s l0 5)] s4 (qv F)
    obtain ⟨g5, H⟩ := H
    obtain ⟨g6, H⟩ := H
    obtain ⟨g7, H⟩ := H
    refine c_aast rfl rfl g5 g6 (by rcases g7 with e | e; exact Or.inl e; exact Or.inr ⟨e, by decide⟩) ?_
    obtain ⟨g8, H⟩ := H
    refine w_iinc rfl rfl rfl g8 ?_
    refine w_goto rfl ?_
    exact wp_ls (sl_s (sl_s (sl_0))) H

/-- HoleDesk$Sheet.born(III)LHoleDesk$Node; -/
theorem C204 {iv : List (Int × Int)} {L : Nat} {h0 : MH} {d : Nat} {s : SC} {a0 : Nat} {a1 : Int} {a2 : Int} {a3 : Int} {F : Nat → SC → Prop} (H : (353 ≤ nxt s) ∧ (kl (nO s 4) a0 = 8) ∧ (-2147483648 ≤ (fI (nO s 4) a0 4) + 1 ∧ (fI (nO s 4) a0 4) + 1 ≤ 2147483647) ∧ (nxt s ≠ 2) ∧ ck iv L h0 d 186 [vr (nxt s), vi (fI (nO s 4) a0 4), vi a1, vi a2, vi a3] (uI (nO s 4) a0 4 ((fI (nO s 4) a0 4) + 1)) (qv fun s5 => F (nxt s) s5)) : ck iv L h0 (d + 1) 204 [vr a0, vi a1, vi a2, vi a3] s (qa F) := by
  show wk iv L h0 (d + 1) 204 0 [lr a0, li a1, li a2, li a3] [] s (qa F)
  obtain ⟨g1, H⟩ := H
  refine c_new rfl rfl g1 ?_
  show wk iv L h0 (d + 1) 204 3 [lr a0, li a1, li a2, li a3] [vr (nxt s)] (nO s 4) (qa F)
  refine w_dup rfl rfl ?_
  refine w_aload_n rfl rfl ?_
  refine w_dup rfl rfl ?_
  obtain ⟨g2, H⟩ := H
  refine c_get rfl rfl rfl g2 ?_
  show wk iv L h0 (d + 1) 204 9 [lr a0, li a1, li a2, li a3] [vi (fI (nO s 4) a0 4), vr a0, vr (nxt s), vr (nxt s)] (nO s 4) (qa F)
  refine w_dup_x1 rfl rfl rfl ?_
  refine w_iconst (n := 1) rfl rfl ?_
  obtain ⟨g3, H⟩ := H
  refine w_iadd rfl g3 ?_
  refine c_put rfl rfl rfl rfl g2 ?_
  refine w_iload_n rfl rfl ?_
  refine w_iload_n rfl rfl ?_
  refine w_iload_n rfl rfl ?_
  obtain ⟨g4, H⟩ := H
  refine c_spec (p := (nxt s)) (as := [vi (fI (nO s 4) a0 4), vi a1, vi a2, vi a3]) (r := [vr (nxt s)]) rfl rfl rfl rfl rfl g4 (wc_mono H (Nat.le_refl _) ?_)
  rintro _ s5 ⟨rfl, H⟩
  show wk iv L h0 (d + 1) 204 21 [lr a0, li a1, li a2, li a3] [vr (nxt s)] s5 (qa F)
  exact w_aret rfl rfl ⟨_, rfl, H⟩

/-- HoleDesk$Sheet.lacksBirths(I)Z -/
theorem C205 {iv : List (Int × Int)} {L : Nat} {h0 : MH} {d : Nat} {s : SC} {a0 : Nat} {a1 : Int} {F : Int → SC → Prop} (H : (kl s a0 = 8) ∧ (-2147483648 ≤ (fI s a0 4) + a1 ∧ (fI s a0 4) + a1 ≤ 2147483647) ∧ (((fI s a0 4) + a1 ≤ 3000 → F 0 s) ∧ (3000 < (fI s a0 4) + a1 → F 1 s))) : ck iv L h0 d 205 [vr a0, vi a1] s (qi F) := by
  show wk iv L h0 d 205 0 [lr a0, li a1] [] s (qi F)
  refine w_aload_n rfl rfl ?_
  obtain ⟨g1, H⟩ := H
  refine c_get rfl rfl rfl g1 ?_
  refine w_iload_n rfl rfl ?_
  obtain ⟨g2, H⟩ := H
  refine w_iadd rfl g2 ?_
  refine w_sipush (n := 3000) rfl rfl rfl ?_
  refine w_icmp_le rfl (fun h => ?_) (fun h => ?_)
  · replace H := H.1 h
    refine w_iconst (n := 0) rfl rfl ?_
    exact w_iretz rfl rfl (by decide) ⟨_, rfl, H⟩
  · replace H := H.2 h
    refine w_iconst (n := 1) rfl rfl ?_
    refine w_goto rfl ?_
    exact w_iretz rfl rfl (by decide) ⟨_, rfl, H⟩

/-- HoleDesk$Sheet.list()V -/
theorem C206 {iv : List (Int × Int)} {L : Nat} {h0 : MH} {d : Nat} {s : SC} {a0 : Nat} {F : SC → Prop} (H : (kl s a0 = 8) ∧ wk iv L h0 (d + 1) 206 10 [lr a0, lr (fR s a0 1)] [] (uI s a0 3 0) (qv F)) : ck iv L h0 (d + 1) 206 [vr a0] s (qv F) := by
  show wk iv L h0 (d + 1) 206 0 [lr a0] [] s (qv F)
  refine w_aload_n rfl rfl ?_
  refine w_iconst (n := 0) rfl rfl ?_
  obtain ⟨g1, H⟩ := H
  refine c_put rfl rfl rfl rfl g1 ?_
  refine w_aload_n rfl rfl ?_
  refine c_getr rfl rfl rfl g1 ?_
  show wk iv L h0 (d + 1) 206 9 [lr a0] [vr (fR s a0 1)] (uI s a0 3 0) (qv F)
  refine w_astore_n rfl rfl ?_
  exact wp_ls (sl_s (sl_s (sl_0))) H

/-- HoleDesk$Sheet.list()V at 10 -/
theorem C206_10 {iv : List (Int × Int)} {L : Nat} {h0 : MH} {d : Nat} {s : SC} {l0 : Nat} {l1 : Nat} {F : SC → Prop} (H : ((l1 = 2 → F s) ∧ (l1 ≠ 2 → (kl s l0 = 8) ∧ ((60 ≤ fI s l0 3 → F s) ∧ (fI s l0 3 < 60 → (kl s l1 = 5) ∧ (-2147483648 ≤ (fI s l0 3) + 1 ∧ (fI s l0 3) + 1 ≤ 2147483647) ∧ (kl s (fR s l0 0) = 103) ∧ (0 ≤ fI s l0 3 ∧ fI s l0 3 < le s (fR s l0 0)) ∧ (l1 = 2 ∨ kl s l1 = 5) ∧ ck iv L h0 d 192 [vr l1] (uB (uI (uI s l1 7 (fI s l0 3)) l0 3 ((fI s l0 3) + 1)) (fR s l0 0) (fI s l0 3) l1) (qa fun r8 s7 => wk iv L h0 (d + 1) 206 10 [lr l0, lr r8] [] s7 (qv F))))))) : wk iv L h0 (d + 1) 206 10 [lr l0, lr l1] [] s (qv F) := by
  refine w_aload_n rfl rfl ?_
  refine c_null rfl (fun h => ?_) (fun h => ?_)
  · replace H := H.1 h
    exact w_ret rfl rfl ⟨rfl, H⟩
  · replace H := H.2 h
    refine w_aload_n rfl rfl ?_
    obtain ⟨g1, H⟩ := H
    refine c_get rfl rfl rfl g1 ?_
    refine w_bipush (n := 60) rfl rfl rfl ?_
    refine w_icmp_ge rfl (fun h => ?_) (fun h => ?_)
    · replace H := H.1 h
      exact w_ret rfl rfl ⟨rfl, H⟩
    · replace H := H.2 h
      refine w_aload_n rfl rfl ?_
      refine w_aload_n rfl rfl ?_
      refine c_get rfl rfl rfl g1 ?_
      obtain ⟨g2, H⟩ := H
      refine c_put rfl rfl rfl rfl g2 ?_
      refine w_aload_n rfl rfl ?_
      refine c_getr rfl rfl rfl g1 ?_
      show wk iv L h0 (d + 1) 206 35 [lr l0, lr l1] [vr (fR s l0 0)] (uI s l1 7 (fI s l0 3)) (qv F)
      refine w_aload_n rfl rfl ?_
      refine w_dup rfl rfl ?_
      refine c_get rfl rfl rfl g1 ?_
      show wk iv L h0 (d + 1) 206 40 [lr l0, lr l1] [vi (fI s l0 3), vr l0, vr (fR s l0 0)] (uI s l1 7 (fI s l0 3)) (qv F)
      refine w_dup_x1 rfl rfl rfl ?_
      refine w_iconst (n := 1) rfl rfl ?_
      obtain ⟨g3, H⟩ := H
      refine w_iadd rfl g3 ?_
      refine c_put rfl rfl rfl rfl g1 ?_
      refine w_aload_n rfl rfl ?_
      obtain ⟨g4, H⟩ := H
      obtain ⟨g5, H⟩ := H
      obtain ⟨g6, H⟩ := H
      refine c_aast rfl rfl g4 g5 (by rcases g6 with e | e; exact Or.inl e; exact Or.inr ⟨e, by decide⟩) ?_
      refine w_aload_n rfl rfl ?_
      refine c_virt (p := l1) (as := []) (r := []) rfl rfl rfl rfl rfl rfl g2 (wc_mono H (Nat.le_refl _) ?_)
      rintro _ s7 ⟨r8, rfl, H⟩
      show wk iv L h0 (d + 1) 206 52 [lr l0, lr l1] [vr r8] s7 (qv F)
      refine w_astore_n rfl rfl ?_
      refine w_goto rfl ?_
      exact wp_ls (sl_s (sl_s (sl_0))) H

/-- HoleDesk$Sheet.find(I)LHoleDesk$Node; -/
theorem C207 {iv : List (Int × Int)} {L : Nat} {h0 : MH} {d : Nat} {s : SC} {a0 : Nat} {a1 : Int} {F : Nat → SC → Prop} (H : wk iv L h0 d 207 2 [lr a0, li a1, li 0] [] s (qa F)) : ck iv L h0 d 207 [vr a0, vi a1] s (qa F) := by
  show wk iv L h0 d 207 0 [lr a0, li a1] [] s (qa F)
  refine w_iconst (n := 0) rfl rfl ?_
  refine w_istore_n rfl rfl ?_
  exact wp_ls (sl_s (sl_s (sl_s (sl_0)))) H

/-- HoleDesk$Sheet.find(I)LHoleDesk$Node; at 2 -/
theorem C207_2 {iv : List (Int × Int)} {L : Nat} {h0 : MH} {d : Nat} {s : SC} {l0 : Nat} {l1 : Int} {l2 : Int} {F : Nat → SC → Prop} (H : (kl s l0 = 8) ∧ ((fI s l0 3 ≤ l2 → F 2 s) ∧ (l2 < fI s l0 3 → (kl s (fR s l0 0) = 103) ∧ (0 ≤ l2 ∧ l2 < le s (fR s l0 0)) ∧ (kl s (aR s (fR s l0 0) l2) = 5) ∧ ((fI s (aR s (fR s l0 0) l2) 0 ≠ l1 → (-2147483648 ≤ l2 + 1 ∧ l2 + 1 ≤ 2147483647) ∧ wk iv L h0 d 207 2 [lr l0, li l1, li (l2 + 1)] [] s (qa F)) ∧ (fI s (aR s (fR s l0 0) l2) 0 = l1 → F (aR s (fR s l0 0) l2) s))))) : wk iv L h0 d 207 2 [lr l0, li l1, li l2] [] s (qa F) := by
  refine w_iload_n rfl rfl ?_
  refine w_aload_n rfl rfl ?_
  obtain ⟨g1, H⟩ := H
  refine c_get rfl rfl rfl g1 ?_
  refine w_icmp_ge rfl (fun h => ?_) (fun h => ?_)
  · replace H := H.1 h
    refine w_null rfl ?_
    exact w_aret rfl rfl ⟨_, rfl, H⟩
  · replace H := H.2 h
    refine w_aload_n rfl rfl ?_
    refine c_getr rfl rfl rfl g1 ?_
    refine w_iload_n rfl rfl ?_
    obtain ⟨g2, H⟩ := H
    obtain ⟨g3, H⟩ := H
    refine c_aald (t := 3) rfl ⟨g2, by decide, by decide⟩ g3 ?_
    obtain ⟨g4, H⟩ := H
    refine c_get rfl rfl rfl g4 ?_
    refine w_iload_n rfl rfl ?_
    refine w_icmp_ne rfl (fun h => ?_) (fun h => ?_)
    · replace H := H.1 h
      obtain ⟨g5, H⟩ := H
      refine w_iinc rfl rfl rfl g5 ?_
      refine w_goto rfl ?_
      exact wp_ls (sl_s (sl_s (sl_s (sl_0)))) H
    · replace H := H.2 h
      refine w_aload_n rfl rfl ?_
      refine c_getr rfl rfl rfl g1 ?_
      refine w_iload_n rfl rfl ?_
      refine c_aald (t := 3) rfl ⟨g2, by decide, by decide⟩ g3 ?_
      exact w_aret rfl rfl ⟨_, rfl, H⟩

/-- HoleDesk$Sheet.replace(LHoleDesk$Node;LHoleDesk$Node;)V -/
theorem C208 {iv : List (Int × Int)} {L : Nat} {h0 : MH} {d : Nat} {s : SC} {a0 : Nat} {a1 : Nat} {a2 : Nat} {F : SC → Prop} (H : (kl s a1 = 5) ∧ ((fR s a1 5 ≠ 2 → (kl s (fR s a1 5) = 5) ∧ ck iv L h0 d 188 [vr (fR s a1 5), vi (fI s a1 6), vr a2] s (qv fun s3 => F s3)) ∧ (fR s a1 5 = 2 → (kl s a2 = 5) ∧ (kl s a0 = 8) ∧ F (uR (uR s a2 5 2) a0 1 a2)))) : ck iv L h0 (d + 1) 208 [vr a0, vr a1, vr a2] s (qv F) := by
  show wk iv L h0 (d + 1) 208 0 [lr a0, lr a1, lr a2] [] s (qv F)
  refine w_aload_n rfl rfl ?_
  obtain ⟨g1, H⟩ := H
  refine c_getr rfl rfl rfl g1 ?_
  refine w_astore_n rfl rfl ?_
  refine w_aload_n rfl rfl ?_
  refine c_nonnull rfl (fun h => ?_) (fun h => ?_)
  · replace H := H.1 h
    refine w_aload_n rfl rfl ?_
    refine w_aload_n rfl rfl ?_
    refine c_get rfl rfl rfl g1 ?_
    refine w_aload_n rfl rfl ?_
    obtain ⟨g2, H⟩ := H
    refine c_virt (p := (fR s a1 5)) (as := [vi (fI s a1 6), vr a2]) (r := []) rfl rfl rfl rfl rfl rfl g2 (wc_mono H (Nat.le_refl _) ?_)
    rintro _ s3 ⟨rfl, H⟩
    show wk iv L h0 (d + 1) 208 31 [lr a0, lr a1, lr a2, lr (fR s a1 5)] [] s3 (qv F)
    exact w_ret rfl rfl ⟨rfl, H⟩
  · replace H := H.2 h
    refine w_aload_n rfl rfl ?_
    refine w_null rfl ?_
    obtain ⟨g4, H⟩ := H
    refine c_putr rfl rfl rfl rfl g4 ?_
    refine w_aload_n rfl rfl ?_
    refine w_aload_n rfl rfl ?_
    obtain ⟨g5, H⟩ := H
    refine c_putr rfl rfl rfl rfl g5 ?_
    refine w_goto rfl ?_
    exact w_ret rfl rfl ⟨rfl, H⟩

/-- HoleDesk$Sheet.sizeAt(LHoleDesk$Node;)I -/
theorem C209 {iv : List (Int × Int)} {L : Nat} {h0 : MH} {d : Nat} {s : SC} {a0 : Nat} {a1 : Nat} {F : Int → SC → Prop} (H : (kl s a1 = 5) ∧ ck iv L h0 d 191 [vr a1] s (qa fun r3 s2 => ((r3 ≠ 2 → (kl s2 r3 = 5) ∧ (kl s2 a1 = 5) ∧ (-2147483648 ≤ (fI s2 r3 7) - (fI s2 a1 7) ∧ (fI s2 r3 7) - (fI s2 a1 7) ≤ 2147483647) ∧ F ((fI s2 r3 7) - (fI s2 a1 7)) s2) ∧ (r3 = 2 → (kl s2 a0 = 8) ∧ (kl s2 a1 = 5) ∧ (-2147483648 ≤ (fI s2 a0 3) - (fI s2 a1 7) ∧ (fI s2 a0 3) - (fI s2 a1 7) ≤ 2147483647) ∧ F ((fI s2 a0 3) - (fI s2 a1 7)) s2)))) : ck iv L h0 (d + 1) 209 [vr a0, vr a1] s (qi F) := by
  show wk iv L h0 (d + 1) 209 0 [lr a0, lr a1] [] s (qi F)
  refine w_aload_n rfl rfl ?_
  obtain ⟨g1, H⟩ := H
  refine c_virt (p := a1) (as := []) (r := []) rfl rfl rfl rfl rfl rfl g1 (wc_mono H (Nat.le_refl _) ?_)
  rintro _ s2 ⟨r3, rfl, H⟩
  show wk iv L h0 (d + 1) 209 4 [lr a0, lr a1] [vr r3] s2 (qi F)
  refine w_astore_n rfl rfl ?_
  refine w_aload_n rfl rfl ?_
  refine c_nonnull rfl (fun h => ?_) (fun h => ?_)
  · replace H := H.1 h
    refine w_aload_n rfl rfl ?_
    obtain ⟨g4, H⟩ := H
    refine c_get rfl rfl rfl g4 ?_
    refine w_aload_n rfl rfl ?_
    obtain ⟨g5, H⟩ := H
    refine c_get rfl rfl rfl g5 ?_
    obtain ⟨g6, H⟩ := H
    refine w_isub rfl g6 ?_
    exact w_iret rfl rfl ⟨_, rfl, H⟩
  · replace H := H.2 h
    refine w_aload_n rfl rfl ?_
    obtain ⟨g7, H⟩ := H
    refine c_get rfl rfl rfl g7 ?_
    refine w_goto rfl ?_
    refine w_aload_n rfl rfl ?_
    obtain ⟨g8, H⟩ := H
    refine c_get rfl rfl rfl g8 ?_
    obtain ⟨g9, H⟩ := H
    refine w_isub rfl g9 ?_
    exact w_iret rfl rfl ⟨_, rfl, H⟩

/-- HoleDesk$Sheet.isWithin(LHoleDesk$Node;LHoleDesk$Node;)Z -/
theorem C210 {iv : List (Int × Int)} {L : Nat} {h0 : MH} {d : Nat} {s : SC} {a0 : Nat} {a1 : Nat} {a2 : Nat} {F : Int → SC → Prop} (H : (kl s a1 = 5) ∧ (kl s a2 = 5) ∧ ((fI s a1 7 < fI s a2 7 → F 0 s) ∧ (fI s a2 7 ≤ fI s a1 7 → (kl s a0 = 8) ∧ ck iv L h0 d 209 [vr a0, vr a2] s (qi fun r5 s4 => (-2147483648 ≤ (fI s a2 7) + r5 ∧ (fI s a2 7) + r5 ≤ 2147483647) ∧ (((fI s a2 7) + r5 ≤ fI s a1 7 → F 0 s4) ∧ (fI s a1 7 < (fI s a2 7) + r5 → F 1 s4)))))) : ck iv L h0 (d + 1) 210 [vr a0, vr a1, vr a2] s (qi F) := by
  show wk iv L h0 (d + 1) 210 0 [lr a0, lr a1, lr a2] [] s (qi F)
  refine w_aload_n rfl rfl ?_
  obtain ⟨g1, H⟩ := H
  refine c_get rfl rfl rfl g1 ?_
  refine w_aload_n rfl rfl ?_
  obtain ⟨g2, H⟩ := H
  refine c_get rfl rfl rfl g2 ?_
  refine w_icmp_lt rfl (fun h => ?_) (fun h => ?_)
  · replace H := H.1 h
    refine w_iconst (n := 0) rfl rfl ?_
    exact w_iretz rfl rfl (by decide) ⟨_, rfl, H⟩
  · replace H := H.2 h
    refine w_aload_n rfl rfl ?_
    refine c_get rfl rfl rfl g1 ?_
    refine w_aload_n rfl rfl ?_
    refine c_get rfl rfl rfl g2 ?_
    refine w_aload_n rfl rfl ?_
    refine w_aload_n rfl rfl ?_
    obtain ⟨g3, H⟩ := H
    refine c_virt (p := a0) (as := [vr a2]) (r := [vi (fI s a2 7), vi (fI s a1 7)]) rfl rfl rfl rfl rfl rfl g3 (wc_mono H (Nat.le_refl _) ?_)
    rintro _ s4 ⟨r5, rfl, H⟩
    show wk iv L h0 (d + 1) 210 24 [lr a0, lr a1, lr a2] [vi r5, vi (fI s a2 7), vi (fI s a1 7)] s4 (qi F)
    obtain ⟨g6, H⟩ := H
    refine w_iadd rfl g6 ?_
    refine w_icmp_ge rfl (fun h => ?_) (fun h => ?_)
    · replace H := H.1 h
      refine w_iconst (n := 0) rfl rfl ?_
      exact w_iretz rfl rfl (by decide) ⟨_, rfl, H⟩
    · replace H := H.2 h
      refine w_iconst (n := 1) rfl rfl ?_
      refine w_goto rfl ?_
      exact w_iretz rfl rfl (by decide) ⟨_, rfl, H⟩

/-- HoleDesk$Sheet.goal(I)LHoleDesk$Node; -/
theorem C211 {iv : List (Int × Int)} {L : Nat} {h0 : MH} {d : Nat} {s : SC} {a0 : Nat} {a1 : Int} {F : Nat → SC → Prop} (H : (kl s a0 = 8) ∧ (kl s (fR s a0 2) = 5) ∧ ((a1 = 0 → F (fR s (fR s a0 2) 5) s) ∧ (a1 = 1 → ck iv L h0 d 212 [vr a0, vr (fR s a0 2), vi 0] s (qa fun r4 s3 => F r4 s3)) ∧ (a1 = 2 → ((fR s (fR s a0 2) 5 ≠ 2 → (-2147483648 ≤ (fI s (fR s a0 2) 6) + 1 ∧ (fI s (fR s a0 2) 6) + 1 ≤ 2147483647) ∧ ck iv L h0 d 212 [vr a0, vr (fR s (fR s a0 2) 5), vi ((fI s (fR s a0 2) 6) + 1)] s (qa fun r7 s6 => F r7 s6)) ∧ (fR s (fR s a0 2) 5 = 2 → F 2 s))) ∧ (a1 = 3 → ((fR s (fR s a0 2) 5 ≠ 2 → (-2147483648 ≤ (fI s (fR s a0 2) 6) - 1 ∧ (fI s (fR s a0 2) 6) - 1 ≤ 2147483647) ∧ ck iv L h0 d 212 [vr a0, vr (fR s (fR s a0 2) 5), vi ((fI s (fR s a0 2) 6) - 1)] s (qa fun r10 s9 => F r10 s9)) ∧ (fR s (fR s a0 2) 5 = 2 → F 2 s))) ∧ (a1 = 4 → ck iv L h0 d 213 [vr a0, vr (fR s a0 2)] s (qa fun r12 s11 => F r12 s11)) ∧ (a1 < 0 ∨ 4 < a1 → F (fR s a0 1) s))) : ck iv L h0 (d + 1) 211 [vr a0, vi a1] s (qa F) := by
  show wk iv L h0 (d + 1) 211 0 [lr a0, li a1] [] s (qa F)
  refine w_aload_n rfl rfl ?_
  obtain ⟨g1, H⟩ := H
  refine c_getr rfl rfl rfl g1 ?_
  obtain ⟨g2, H⟩ := H
  refine c_getr rfl rfl rfl g2 ?_
  refine w_astore_n rfl rfl ?_
  refine w_iload_n rfl rfl ?_
  have J44 : (a1 = 0) → wk iv L h0 (d + 1) 211 44 [lr a0, li a1, lr (fR s (fR s a0 2) 5)] [] s (qa F) := fun h => by
    replace H := H.1 h
    refine w_aload_n rfl rfl ?_
    exact w_aret rfl rfl ⟨_, rfl, H⟩
  have J46 : (a1 = 1) → wk iv L h0 (d + 1) 211 46 [lr a0, li a1, lr (fR s (fR s a0 2) 5)] [] s (qa F) := fun h => by
    replace H := H.2.1 h
    refine w_aload_n rfl rfl ?_
    refine w_aload_n rfl rfl ?_
    refine c_getr rfl rfl rfl g1 ?_
    refine w_iconst (n := 0) rfl rfl ?_
    refine c_virt (p := a0) (as := [vr (fR s a0 2), vi 0]) (r := []) rfl rfl rfl rfl rfl rfl g1 (wc_mono H (Nat.le_refl _) ?_)
    rintro _ s3 ⟨r4, rfl, H⟩
    show wk iv L h0 (d + 1) 211 55 [lr a0, li a1, lr (fR s (fR s a0 2) 5)] [vr r4] s3 (qa F)
    exact w_aret rfl rfl ⟨_, rfl, H⟩
  have J56 : (a1 = 2) → wk iv L h0 (d + 1) 211 56 [lr a0, li a1, lr (fR s (fR s a0 2) 5)] [] s (qa F) := fun h => by
    replace H := H.2.2.1 h
    refine w_aload_n rfl rfl ?_
    refine c_nonnull rfl (fun h => ?_) (fun h => ?_)
    · replace H := H.1 h
      refine w_aload_n rfl rfl ?_
      refine w_aload_n rfl rfl ?_
      refine w_aload_n rfl rfl ?_
      refine c_getr rfl rfl rfl g1 ?_
      refine c_get rfl rfl rfl g2 ?_
      refine w_iconst (n := 1) rfl rfl ?_
      obtain ⟨g5, H⟩ := H
      refine w_iadd rfl g5 ?_
      refine c_virt (p := a0) (as := [vr (fR s (fR s a0 2) 5), vi ((fI s (fR s a0 2) 6) + 1)]) (r := []) rfl rfl rfl rfl rfl rfl g1 (wc_mono H (Nat.le_refl _) ?_)
      rintro _ s6 ⟨r7, rfl, H⟩
      show wk iv L h0 (d + 1) 211 78 [lr a0, li a1, lr (fR s (fR s a0 2) 5)] [vr r7] s6 (qa F)
      exact w_aret rfl rfl ⟨_, rfl, H⟩
    · replace H := H.2 h
      refine w_null rfl ?_
      refine w_goto rfl ?_
      exact w_aret rfl rfl ⟨_, rfl, H⟩
  have J79 : (a1 = 3) → wk iv L h0 (d + 1) 211 79 [lr a0, li a1, lr (fR s (fR s a0 2) 5)] [] s (qa F) := fun h => by
    replace H := H.2.2.2.1 h
    refine w_aload_n rfl rfl ?_
    refine c_nonnull rfl (fun h => ?_) (fun h => ?_)
    · replace H := H.1 h
      refine w_aload_n rfl rfl ?_
      refine w_aload_n rfl rfl ?_
      refine w_aload_n rfl rfl ?_
      refine c_getr rfl rfl rfl g1 ?_
      refine c_get rfl rfl rfl g2 ?_
      refine w_iconst (n := 1) rfl rfl ?_
      obtain ⟨g8, H⟩ := H
      refine w_isub rfl g8 ?_
      refine c_virt (p := a0) (as := [vr (fR s (fR s a0 2) 5), vi ((fI s (fR s a0 2) 6) - 1)]) (r := []) rfl rfl rfl rfl rfl rfl g1 (wc_mono H (Nat.le_refl _) ?_)
      rintro _ s9 ⟨r10, rfl, H⟩
      show wk iv L h0 (d + 1) 211 101 [lr a0, li a1, lr (fR s (fR s a0 2) 5)] [vr r10] s9 (qa F)
      exact w_aret rfl rfl ⟨_, rfl, H⟩
    · replace H := H.2 h
      refine w_null rfl ?_
      refine w_goto rfl ?_
      exact w_aret rfl rfl ⟨_, rfl, H⟩
  have J102 : (a1 = 4) → wk iv L h0 (d + 1) 211 102 [lr a0, li a1, lr (fR s (fR s a0 2) 5)] [] s (qa F) := fun h => by
    replace H := H.2.2.2.2.1 h
    refine w_aload_n rfl rfl ?_
    refine w_aload_n rfl rfl ?_
    refine c_getr rfl rfl rfl g1 ?_
    refine c_virt (p := a0) (as := [vr (fR s a0 2)]) (r := []) rfl rfl rfl rfl rfl rfl g1 (wc_mono H (Nat.le_refl _) ?_)
    rintro _ s11 ⟨r12, rfl, H⟩
    show wk iv L h0 (d + 1) 211 110 [lr a0, li a1, lr (fR s (fR s a0 2) 5)] [vr r12] s11 (qa F)
    exact w_aret rfl rfl ⟨_, rfl, H⟩
  have J111 : (a1 < 0 ∨ 4 < a1) → wk iv L h0 (d + 1) 211 111 [lr a0, li a1, lr (fR s (fR s a0 2) 5)] [] s (qa F) := fun h => by
    replace H := H.2.2.2.2.2 h
    refine w_aload_n rfl rfl ?_
    refine c_getr rfl rfl rfl g1 ?_
    exact w_aret rfl rfl ⟨_, rfl, H⟩
  refine w_tsw (td := 111) (ts := [44, 46, 56, 79, 102]) rfl rfl rfl rfl rfl rfl (fun h => J111 (by omega)) ?_
  exact swA_c (fun h => J44 (by omega)) (swA_c (fun h => J46 (by omega)) (swA_c (fun h => J56 (by omega)) (swA_c (fun h => J79 (by omega)) (swA_c (fun h => J102 (by omega)) (swA_n)))))

/-- HoleDesk$Sheet.partOf(LHoleDesk$Node;I)LHoleDesk$Node; -/
theorem C212 {iv : List (Int × Int)} {L : Nat} {h0 : MH} {d : Nat} {s : SC} {a0 : Nat} {a1 : Nat} {a2 : Int} {F : Nat → SC → Prop} (H : (kl s a1 = 5) ∧ ck iv L h0 d 187 [vr a1, vi a2] s (qi fun r3 s2 => ((r3 = 0 → F 2 s2) ∧ (r3 ≠ 0 → (kl s2 a1 = 5) ∧ (kl s2 (fR s2 a1 3) = 103) ∧ (0 ≤ a2 ∧ a2 < le s2 (fR s2 a1 3)) ∧ F (aR s2 (fR s2 a1 3) a2) s2)))) : ck iv L h0 (d + 1) 212 [vr a0, vr a1, vi a2] s (qa F) := by
  show wk iv L h0 (d + 1) 212 0 [lr a0, lr a1, li a2] [] s (qa F)
  refine w_aload_n rfl rfl ?_
  refine w_iload_n rfl rfl ?_
  obtain ⟨g1, H⟩ := H
  refine c_virt (p := a1) (as := [vi a2]) (r := []) rfl rfl rfl rfl rfl rfl g1 (wc_mono H (Nat.le_refl _) ?_)
  rintro _ s2 ⟨r3, rfl, H⟩
  show wk iv L h0 (d + 1) 212 5 [lr a0, lr a1, li a2] [vi r3] s2 (qa F)
  refine w_if_eq rfl (fun h => ?_) (fun h => ?_)
  · replace H := H.1 h
    refine w_null rfl ?_
    exact w_aret rfl rfl ⟨_, rfl, H⟩
  · replace H := H.2 h
    refine w_aload_n rfl rfl ?_
    obtain ⟨g4, H⟩ := H
    refine c_getr rfl rfl rfl g4 ?_
    refine w_iload_n rfl rfl ?_
    obtain ⟨g5, H⟩ := H
    obtain ⟨g6, H⟩ := H
    refine c_aald (t := 3) rfl ⟨g5, by decide, by decide⟩ g6 ?_
    refine w_goto rfl ?_
    exact w_aret rfl rfl ⟨_, rfl, H⟩

/-- HoleDesk$Sheet.holeBehind(LHoleDesk$Node;)LHoleDesk$Node; -/
theorem C213 {iv : List (Int × Int)} {L : Nat} {h0 : MH} {d : Nat} {s : SC} {a0 : Nat} {a1 : Nat} {F : Nat → SC → Prop} (H : (kl s a1 = 5) ∧ (-2147483648 ≤ (fI s a1 7) + 1 ∧ (fI s a1 7) + 1 ≤ 2147483647) ∧ wk iv L h0 d 213 7 [lr a0, ln, li ((fI s a1 7) + 1)] [] s (qa F)) : ck iv L h0 d 213 [vr a0, vr a1] s (qa F) := by
  show wk iv L h0 d 213 0 [lr a0, lr a1] [] s (qa F)
  refine w_aload_n rfl rfl ?_
  obtain ⟨g1, H⟩ := H
  refine c_get rfl rfl rfl g1 ?_
  refine w_iconst (n := 1) rfl rfl ?_
  obtain ⟨g2, H⟩ := H
  refine w_iadd rfl g2 ?_
  refine w_istore_n rfl rfl ?_
  exact wp_ls (sl_s (sl_n (sl_s (sl_0)))) H

/-- HoleDesk$Sheet.holeBehind(LHoleDesk$Node;)LHoleDesk$Node; at 7 -/
theorem C213_7 {iv : List (Int × Int)} {L : Nat} {h0 : MH} {d : Nat} {s : SC} {l0 : Nat} {l2 : Int} {F : Nat → SC → Prop} (H : (kl s l0 = 8) ∧ ((fI s l0 3 ≤ l2 → F 2 s) ∧ (l2 < fI s l0 3 → (kl s (fR s l0 0) = 103) ∧ (0 ≤ l2 ∧ l2 < le s (fR s l0 0)) ∧ (kl s (aR s (fR s l0 0) l2) = 5) ∧ ((fI s (aR s (fR s l0 0) l2) 1 ≠ 0 → (-2147483648 ≤ l2 + 1 ∧ l2 + 1 ≤ 2147483647) ∧ wk iv L h0 d 213 7 [lr l0, ln, li (l2 + 1)] [] s (qa F)) ∧ (fI s (aR s (fR s l0 0) l2) 1 = 0 → F (aR s (fR s l0 0) l2) s))))) : wk iv L h0 d 213 7 [lr l0, ln, li l2] [] s (qa F) := by
  refine w_iload_n rfl rfl ?_
  refine w_aload_n rfl rfl ?_
  obtain ⟨g1, H⟩ := H
  refine c_get rfl rfl rfl g1 ?_
  refine w_icmp_ge rfl (fun h => ?_) (fun h => ?_)
  · replace H := H.1 h
    refine w_null rfl ?_
    exact w_aret rfl rfl ⟨_, rfl, H⟩
  · replace H := H.2 h
    refine w_aload_n rfl rfl ?_
    refine c_getr rfl rfl rfl g1 ?_
    refine w_iload_n rfl rfl ?_
    obtain ⟨g2, H⟩ := H
    obtain ⟨g3, H⟩ := H
    refine c_aald (t := 3) rfl ⟨g2, by decide, by decide⟩ g3 ?_
    obtain ⟨g4, H⟩ := H
    refine c_get rfl rfl rfl g4 ?_
    refine w_if_ne rfl (fun h => ?_) (fun h => ?_)
    · replace H := H.1 h
      obtain ⟨g5, H⟩ := H
      refine w_iinc rfl rfl rfl g5 ?_
      refine w_goto rfl ?_
      exact wp_ls (sl_s (sl_n (sl_s (sl_0)))) H
    · replace H := H.2 h
      refine w_aload_n rfl rfl ?_
      refine c_getr rfl rfl rfl g1 ?_
      refine w_iload_n rfl rfl ?_
      refine c_aald (t := 3) rfl ⟨g2, by decide, by decide⟩ g3 ?_
      exact w_aret rfl rfl ⟨_, rfl, H⟩

/-- HoleDesk$Sheet.renamingCatches(LHoleDesk$Node;I)Z -/
theorem C214 {iv : List (Int × Int)} {L : Nat} {h0 : MH} {d : Nat} {s : SC} {a0 : Nat} {a1 : Nat} {a2 : Int} {F : Int → SC → Prop} (H : wk iv L h0 (d + 1) 214 2 [lr a0, lr a1, li a2, li 0] [] s (qi F)) : ck iv L h0 (d + 1) 214 [vr a0, vr a1, vi a2] s (qi F) := by
  show wk iv L h0 (d + 1) 214 0 [lr a0, lr a1, li a2] [] s (qi F)
  refine w_iconst (n := 0) rfl rfl ?_
  refine w_istore_n rfl rfl ?_
  exact wp_ls (sl_s (sl_s (sl_s (sl_s (sl_0))))) H

/-- HoleDesk$Sheet.renamingCatches(LHoleDesk$Node;I)Z at 2 -/
theorem C214_2 {iv : List (Int × Int)} {L : Nat} {h0 : MH} {d : Nat} {s : SC} {l0 : Nat} {l1 : Nat} {l2 : Int} {l3 : Int} {F : Int → SC → Prop} (H : (kl s l0 = 8) ∧ ((fI s l0 3 ≤ l3 → F 0 s) ∧ (l3 < fI s l0 3 → (kl s (fR s l0 0) = 103) ∧ (0 ≤ l3 ∧ l3 < le s (fR s l0 0)) ∧ (kl s (aR s (fR s l0 0) l3) = 5) ∧ ((fI s (aR s (fR s l0 0) l3) 1 ≠ 3 → (-2147483648 ≤ l3 + 1 ∧ l3 + 1 ≤ 2147483647) ∧ wk iv L h0 (d + 1) 214 2 [lr l0, lr l1, li l2, li (l3 + 1)] [] s (qi F)) ∧ (fI s (aR s (fR s l0 0) l3) 1 = 3 → ck iv L h0 d 56 [vr (aR s (fR s l0 0) l3), vi (fI s (aR s (fR s l0 0) l3) 4), vr 2, vi (-9)] s (qa fun r7 s6 => (r7 = 2 ∨ 64 ≤ r7) ∧ (l1 = 2 ∨ 64 ≤ l1) ∧ ((r7 ≠ l1 → (kl s6 (aR s (fR s l0 0) l3) = 5) ∧ ck iv L h0 d 56 [vr (aR s (fR s l0 0) l3), vi (fI s6 (aR s (fR s l0 0) l3) 4), vr l1, vi l2] s6 (qa fun r12 s11 => (r12 = 2 ∨ 64 ≤ r12) ∧ ((r12 = r7 → (-2147483648 ≤ l3 + 1 ∧ l3 + 1 ≤ 2147483647) ∧ wk iv L h0 (d + 1) 214 2 [lr l0, lr l1, li l2, li (l3 + 1)] [] s11 (qi F)) ∧ (r12 ≠ r7 → F 1 s11)))) ∧ (r7 = l1 → ck iv L h0 d 56 [vr (aR s (fR s l0 0) l3), vi l2, vr l1, vi l2] s6 (qa fun r16 s15 => (r16 = 2 ∨ 64 ≤ r16) ∧ ((r16 = r7 → (-2147483648 ≤ l3 + 1 ∧ l3 + 1 ≤ 2147483647) ∧ wk iv L h0 (d + 1) 214 2 [lr l0, lr l1, li l2, li (l3 + 1)] [] s15 (qi F)) ∧ (r16 ≠ r7 → F 1 s15))))))))))) : wk iv L h0 (d + 1) 214 2 [lr l0, lr l1, li l2, li l3] [] s (qi F) := by
  refine w_iload_n rfl rfl ?_
  refine w_aload_n rfl rfl ?_
  obtain ⟨g1, H⟩ := H
  refine c_get rfl rfl rfl g1 ?_
  refine w_icmp_ge rfl (fun h => ?_) (fun h => ?_)
  · replace H := H.1 h
    refine w_iconst (n := 0) rfl rfl ?_
    exact w_iretz rfl rfl (by decide) ⟨_, rfl, H⟩
  · replace H := H.2 h
    refine w_aload_n rfl rfl ?_
    refine c_getr rfl rfl rfl g1 ?_
    refine w_iload_n rfl rfl ?_
    obtain ⟨g2, H⟩ := H
    obtain ⟨g3, H⟩ := H
    refine c_aald (t := 3) rfl ⟨g2, by decide, by decide⟩ g3 ?_
    refine w_astore rfl rfl ?_
    refine w_aload rfl rfl ?_
    obtain ⟨g4, H⟩ := H
    refine c_get rfl rfl rfl g4 ?_
    refine w_iconst (n := 3) rfl rfl ?_
    refine w_icmp_ne rfl (fun h => ?_) (fun h => ?_)
    · replace H := H.1 h
      obtain ⟨g5, H⟩ := H
      refine w_iinc rfl rfl rfl g5 ?_
      refine w_goto rfl ?_
      exact wp_ls (sl_s (sl_s (sl_s (sl_s (sl_0))))) H
    · replace H := H.2 h
      refine w_aload rfl rfl ?_
      refine w_aload rfl rfl ?_
      refine c_get rfl rfl rfl g4 ?_
      refine w_null rfl ?_
      refine w_bipush (n := (-9)) rfl rfl rfl ?_
      refine w_static (as := [vr (aR s (fR s l0 0) l3), vi (fI s (aR s (fR s l0 0) l3) 4), vr 2, vi (-9)]) (r := []) rfl rfl rfl rfl rfl (wc_mono H (Nat.le_refl _) ?_)
      rintro _ s6 ⟨r7, rfl, H⟩
      show wk iv L h0 (d + 1) 214 40 [lr l0, lr l1, li l2, li l3, lr (aR s (fR s l0 0) l3)] [vr r7] s6 (qi F)
      refine w_astore rfl rfl ?_
      refine w_aload rfl rfl ?_
      refine w_aload_n rfl rfl ?_
      obtain ⟨g8, H⟩ := H
      obtain ⟨g9, H⟩ := H
      refine c_acmp_ne rfl g8 g9 (fun h => ?_) (fun h => ?_)
      · replace H := H.1 h
        refine w_aload rfl rfl ?_
        obtain ⟨g10, H⟩ := H
        refine c_get rfl rfl rfl g10 ?_
        refine w_istore rfl rfl ?_
        refine w_aload rfl rfl ?_
        refine w_iload rfl rfl ?_
        refine w_aload_n rfl rfl ?_
        refine w_iload_n rfl rfl ?_
        refine w_static (as := [vr (aR s (fR s l0 0) l3), vi (fI s6 (aR s (fR s l0 0) l3) 4), vr l1, vi l2]) (r := []) rfl rfl rfl rfl rfl (wc_mono H (Nat.le_refl _) ?_)
        rintro _ s11 ⟨r12, rfl, H⟩
        show wk iv L h0 (d + 1) 214 68 [lr l0, lr l1, li l2, li l3, lr (aR s (fR s l0 0) l3), lr r7, li (fI s6 (aR s (fR s l0 0) l3) 4)] [vr r12] s11 (qi F)
        refine w_aload rfl rfl ?_
        obtain ⟨g13, H⟩ := H
        refine c_acmp_eq rfl g13 g8 (fun h => ?_) (fun h => ?_)
        · replace H := H.1 h
          obtain ⟨g14, H⟩ := H
          refine w_iinc rfl rfl rfl g14 ?_
          refine w_goto rfl ?_
          exact wp_ls (sl_s (sl_s (sl_s (sl_s (sl_0))))) H
        · replace H := H.2 h
          refine w_iconst (n := 1) rfl rfl ?_
          exact w_iretz rfl rfl (by decide) ⟨_, rfl, H⟩
      · replace H := H.2 h
        refine w_iload_n rfl rfl ?_
        refine w_goto rfl ?_
        refine w_istore rfl rfl ?_
        refine w_aload rfl rfl ?_
        refine w_iload rfl rfl ?_
        refine w_aload_n rfl rfl ?_
        refine w_iload_n rfl rfl ?_
        refine w_static (as := [vr (aR s (fR s l0 0) l3), vi l2, vr l1, vi l2]) (r := []) rfl rfl rfl rfl rfl (wc_mono H (Nat.le_refl _) ?_)
        rintro _ s15 ⟨r16, rfl, H⟩
        show wk iv L h0 (d + 1) 214 68 [lr l0, lr l1, li l2, li l3, lr (aR s (fR s l0 0) l3), lr r7, li l2] [vr r16] s15 (qi F)
        refine w_aload rfl rfl ?_
        obtain ⟨g17, H⟩ := H
        refine c_acmp_eq rfl g17 g8 (fun h => ?_) (fun h => ?_)
        · replace H := H.1 h
          obtain ⟨g18, H⟩ := H
          refine w_iinc rfl rfl rfl g18 ?_
          refine w_goto rfl ?_
          exact wp_ls (sl_s (sl_s (sl_s (sl_s (sl_0))))) H
        · replace H := H.2 h
          refine w_iconst (n := 1) rfl rfl ?_
          exact w_iretz rfl rfl (by decide) ⟨_, rfl, H⟩

/-- HoleDesk$Sheet.renameAll(LHoleDesk$Node;I)I -/
theorem C215 {iv : List (Int × Int)} {L : Nat} {h0 : MH} {d : Nat} {s : SC} {a0 : Nat} {a1 : Nat} {a2 : Int} {F : Int → SC → Prop} (H : wk iv L h0 (d + 1) 215 5 [lr a0, lr a1, li a2, li 0, li 0] [] s (qi F)) : ck iv L h0 (d + 1) 215 [vr a0, vr a1, vi a2] s (qi F) := by
  show wk iv L h0 (d + 1) 215 0 [lr a0, lr a1, li a2] [] s (qi F)
  refine w_iconst (n := 0) rfl rfl ?_
  refine w_istore_n rfl rfl ?_
  refine w_iconst (n := 0) rfl rfl ?_
  refine w_istore rfl rfl ?_
  exact wp_ls (sl_s (sl_s (sl_s (sl_s (sl_s (sl_0)))))) H

/-- HoleDesk$Sheet.renameAll(LHoleDesk$Node;I)I at 5 -/
theorem C215_5 {iv : List (Int × Int)} {L : Nat} {h0 : MH} {d : Nat} {s : SC} {l0 : Nat} {l1 : Nat} {l2 : Int} {l3 : Int} {l4 : Int} {F : Int → SC → Prop} (H : (kl s l0 = 8) ∧ ((fI s l0 3 ≤ l4 → (kl s l1 = 5) ∧ F l3 (uI s l1 4 l2)) ∧ (l4 < fI s l0 3 → (kl s (fR s l0 0) = 103) ∧ (0 ≤ l4 ∧ l4 < le s (fR s l0 0)) ∧ (kl s (aR s (fR s l0 0) l4) = 5) ∧ ((fI s (aR s (fR s l0 0) l4) 1 ≠ 3 → (-2147483648 ≤ l4 + 1 ∧ l4 + 1 ≤ 2147483647) ∧ wk iv L h0 (d + 1) 215 5 [lr l0, lr l1, li l2, li l3, li (l4 + 1)] [] s (qi F)) ∧ (fI s (aR s (fR s l0 0) l4) 1 = 3 → ck iv L h0 d 56 [vr (aR s (fR s l0 0) l4), vi (fI s (aR s (fR s l0 0) l4) 4), vr 2, vi (-9)] s (qa fun r8 s7 => (r8 = 2 ∨ 64 ≤ r8) ∧ (l1 = 2 ∨ 64 ≤ l1) ∧ ((r8 ≠ l1 → (-2147483648 ≤ l4 + 1 ∧ l4 + 1 ≤ 2147483647) ∧ wk iv L h0 (d + 1) 215 5 [lr l0, lr l1, li l2, li l3, li (l4 + 1)] [] s7 (qi F)) ∧ (r8 = l1 → (-2147483648 ≤ l3 + 1 ∧ l3 + 1 ≤ 2147483647) ∧ (kl s7 (aR s (fR s l0 0) l4) = 5) ∧ (-2147483648 ≤ l4 + 1 ∧ l4 + 1 ≤ 2147483647) ∧ wk iv L h0 (d + 1) 215 5 [lr l0, lr l1, li l2, li (l3 + 1), li (l4 + 1)] [] (uI s7 (aR s (fR s l0 0) l4) 4 l2) (qi F))))))))) : wk iv L h0 (d + 1) 215 5 [lr l0, lr l1, li l2, li l3, li l4] [] s (qi F) := by
  refine w_iload rfl rfl ?_
  refine w_aload_n rfl rfl ?_
  obtain ⟨g1, H⟩ := H
  refine c_get rfl rfl rfl g1 ?_
  refine w_icmp_ge rfl (fun h => ?_) (fun h => ?_)
  · replace H := H.1 h
    refine w_aload_n rfl rfl ?_
    refine w_iload_n rfl rfl ?_
    obtain ⟨g2, H⟩ := H
    refine c_put rfl rfl rfl rfl g2 ?_
    refine w_iload_n rfl rfl ?_
    exact w_iret rfl rfl ⟨_, rfl, H⟩
  · replace H := H.2 h
    refine w_aload_n rfl rfl ?_
    refine c_getr rfl rfl rfl g1 ?_
    refine w_iload rfl rfl ?_
    obtain ⟨g3, H⟩ := H
    obtain ⟨g4, H⟩ := H
    refine c_aald (t := 3) rfl ⟨g3, by decide, by decide⟩ g4 ?_
    refine w_astore rfl rfl ?_
    refine w_aload rfl rfl ?_
    obtain ⟨g5, H⟩ := H
    refine c_get rfl rfl rfl g5 ?_
    refine w_iconst (n := 3) rfl rfl ?_
    refine w_icmp_ne rfl (fun h => ?_) (fun h => ?_)
    · replace H := H.1 h
      obtain ⟨g6, H⟩ := H
      refine w_iinc rfl rfl rfl g6 ?_
      refine w_goto rfl ?_
      exact wp_ls (sl_s (sl_s (sl_s (sl_s (sl_s (sl_0)))))) H
    · replace H := H.2 h
      refine w_aload rfl rfl ?_
      refine w_aload rfl rfl ?_
      refine c_get rfl rfl rfl g5 ?_
      refine w_null rfl ?_
      refine w_bipush (n := (-9)) rfl rfl rfl ?_
      refine w_static (as := [vr (aR s (fR s l0 0) l4), vi (fI s (aR s (fR s l0 0) l4) 4), vr 2, vi (-9)]) (r := []) rfl rfl rfl rfl rfl (wc_mono H (Nat.le_refl _) ?_)
      rintro _ s7 ⟨r8, rfl, H⟩
      show wk iv L h0 (d + 1) 215 45 [lr l0, lr l1, li l2, li l3, li l4, lr (aR s (fR s l0 0) l4)] [vr r8] s7 (qi F)
      refine w_aload_n rfl rfl ?_
      obtain ⟨g9, H⟩ := H
      obtain ⟨g10, H⟩ := H
      refine c_acmp_ne rfl g9 g10 (fun h => ?_) (fun h => ?_)
      · replace H := H.1 h
        obtain ⟨g11, H⟩ := H
        refine w_iinc rfl rfl rfl g11 ?_
        refine w_goto rfl ?_
        exact wp_ls (sl_s (sl_s (sl_s (sl_s (sl_s (sl_0)))))) H
      · replace H := H.2 h
        obtain ⟨g12, H⟩ := H
        refine w_iinc rfl rfl rfl g12 ?_
        refine w_aload rfl rfl ?_
        refine w_iload_n rfl rfl ?_
        obtain ⟨g13, H⟩ := H
        refine c_put rfl rfl rfl rfl g13 ?_
        obtain ⟨g14, H⟩ := H
        refine w_iinc rfl rfl rfl g14 ?_
        refine w_goto rfl ?_
        exact wp_ls (sl_s (sl_s (sl_s (sl_s (sl_s (sl_0)))))) H

/-- HoleDesk$Sheet.movingCatches(LHoleDesk$Node;LHoleDesk$Node;)Z -/
theorem C216 {iv : List (Int × Int)} {L : Nat} {h0 : MH} {d : Nat} {s : SC} {a0 : Nat} {a1 : Nat} {a2 : Nat} {F : Int → SC → Prop} (H : (kl s a1 = 5) ∧ (kl s a0 = 8) ∧ ck iv L h0 d 209 [vr a0, vr a1] s (qi fun r4 s3 => (-2147483648 ≤ (fI s a1 7) + r4 ∧ (fI s a1 7) + r4 ≤ 2147483647) ∧ (kl s3 a1 = 5) ∧ wk iv L h0 (d + 1) 216 17 [lr a0, lr a1, lr a2, li ((fI s a1 7) + r4), li (fI s3 a1 7)] [] s3 (qi F))) : ck iv L h0 (d + 1) 216 [vr a0, vr a1, vr a2] s (qi F) := by
  show wk iv L h0 (d + 1) 216 0 [lr a0, lr a1, lr a2] [] s (qi F)
  refine w_aload_n rfl rfl ?_
  obtain ⟨g1, H⟩ := H
  refine c_get rfl rfl rfl g1 ?_
  refine w_aload_n rfl rfl ?_
  refine w_aload_n rfl rfl ?_
  obtain ⟨g2, H⟩ := H
  refine c_virt (p := a0) (as := [vr a1]) (r := [vi (fI s a1 7)]) rfl rfl rfl rfl rfl rfl g2 (wc_mono H (Nat.le_refl _) ?_)
  rintro _ s3 ⟨r4, rfl, H⟩
  show wk iv L h0 (d + 1) 216 9 [lr a0, lr a1, lr a2] [vi r4, vi (fI s a1 7)] s3 (qi F)
  obtain ⟨g5, H⟩ := H
  refine w_iadd rfl g5 ?_
  refine w_istore_n rfl rfl ?_
  refine w_aload_n rfl rfl ?_
  obtain ⟨g6, H⟩ := H
  refine c_get rfl rfl rfl g6 ?_
  refine w_istore rfl rfl ?_
  exact wp_ls (sl_s (sl_s (sl_s (sl_s (sl_s (sl_0)))))) H

/-- HoleDesk$Sheet.movingCatches(LHoleDesk$Node;LHoleDesk$Node;)Z at 17 -/
theorem C216_17 {iv : List (Int × Int)} {L : Nat} {h0 : MH} {d : Nat} {s : SC} {l0 : Nat} {l1 : Nat} {l2 : Nat} {l3 : Int} {l4 : Int} {F : Int → SC → Prop} (H : ((l3 ≤ l4 → F 0 s) ∧ (l4 < l3 → (kl s l0 = 8) ∧ ((fI s l0 3 ≤ l4 → F 0 s) ∧ (l4 < fI s l0 3 → (kl s (fR s l0 0) = 103) ∧ (0 ≤ l4 ∧ l4 < le s (fR s l0 0)) ∧ (kl s (aR s (fR s l0 0) l4) = 5) ∧ ((fI s (aR s (fR s l0 0) l4) 1 ≠ 3 → (-2147483648 ≤ l4 + 1 ∧ l4 + 1 ≤ 2147483647) ∧ wk iv L h0 (d + 1) 216 17 [lr l0, lr l1, lr l2, li l3, li (l4 + 1)] [] s (qi F)) ∧ (fI s (aR s (fR s l0 0) l4) 1 = 3 → ck iv L h0 d 56 [vr (aR s (fR s l0 0) l4), vi (fI s (aR s (fR s l0 0) l4) 4), vr 2, vi (-9)] s (qa fun r7 s6 => ((r7 = 2 → (kl s6 (aR s (fR s l0 0) l4) = 5) ∧ ck iv L h0 d 56 [vr l2, vi (fI s6 (aR s (fR s l0 0) l4) 4), vr 2, vi (-9)] s6 (qa fun r10 s9 => (r10 = 2 ∨ 64 ≤ r10) ∧ (r7 = 2 ∨ 64 ≤ r7) ∧ ((r10 = r7 → (-2147483648 ≤ l4 + 1 ∧ l4 + 1 ≤ 2147483647) ∧ wk iv L h0 (d + 1) 216 17 [lr l0, lr l1, lr l2, li l3, li (l4 + 1)] [] s9 (qi F)) ∧ (r10 ≠ r7 → F 1 s9)))) ∧ (r7 ≠ 2 → (kl s6 l0 = 8) ∧ ck iv L h0 d 210 [vr l0, vr r7, vr l1] s6 (qi fun r16 s15 => ((r16 ≠ 0 → (-2147483648 ≤ l4 + 1 ∧ l4 + 1 ≤ 2147483647) ∧ wk iv L h0 (d + 1) 216 17 [lr l0, lr l1, lr l2, li l3, li (l4 + 1)] [] s15 (qi F)) ∧ (r16 = 0 → (kl s15 (aR s (fR s l0 0) l4) = 5) ∧ ck iv L h0 d 56 [vr l2, vi (fI s15 (aR s (fR s l0 0) l4) 4), vr 2, vi (-9)] s15 (qa fun r20 s19 => (r20 = 2 ∨ 64 ≤ r20) ∧ (r7 = 2 ∨ 64 ≤ r7) ∧ ((r20 = r7 → (-2147483648 ≤ l4 + 1 ∧ l4 + 1 ≤ 2147483647) ∧ wk iv L h0 (d + 1) 216 17 [lr l0, lr l1, lr l2, li l3, li (l4 + 1)] [] s19 (qi F)) ∧ (r20 ≠ r7 → F 1 s19)))))))))))))))) : wk iv L h0 (d + 1) 216 17 [lr l0, lr l1, lr l2, li l3, li l4] [] s (qi F) := by
  refine w_iload rfl rfl ?_
  refine w_iload_n rfl rfl ?_
  refine w_icmp_ge rfl (fun h => ?_) (fun h => ?_)
  · replace H := H.1 h
    refine w_iconst (n := 0) rfl rfl ?_
    exact w_iretz rfl rfl (by decide) ⟨_, rfl, H⟩
  · replace H := H.2 h
    refine w_iload rfl rfl ?_
    refine w_aload_n rfl rfl ?_
    obtain ⟨g1, H⟩ := H
    refine c_get rfl rfl rfl g1 ?_
    refine w_icmp_ge rfl (fun h => ?_) (fun h => ?_)
    · replace H := H.1 h
      refine w_iconst (n := 0) rfl rfl ?_
      exact w_iretz rfl rfl (by decide) ⟨_, rfl, H⟩
    · replace H := H.2 h
      refine w_aload_n rfl rfl ?_
      refine c_getr rfl rfl rfl g1 ?_
      refine w_iload rfl rfl ?_
      obtain ⟨g2, H⟩ := H
      obtain ⟨g3, H⟩ := H
      refine c_aald (t := 3) rfl ⟨g2, by decide, by decide⟩ g3 ?_
      refine w_astore rfl rfl ?_
      refine w_aload rfl rfl ?_
      obtain ⟨g4, H⟩ := H
      refine c_get rfl rfl rfl g4 ?_
      refine w_iconst (n := 3) rfl rfl ?_
      refine w_icmp_ne rfl (fun h => ?_) (fun h => ?_)
      · replace H := H.1 h
        obtain ⟨g5, H⟩ := H
        refine w_iinc rfl rfl rfl g5 ?_
        refine w_goto rfl ?_
        exact wp_ls (sl_s (sl_s (sl_s (sl_s (sl_s (sl_0)))))) H
      · replace H := H.2 h
        refine w_aload rfl rfl ?_
        refine w_aload rfl rfl ?_
        refine c_get rfl rfl rfl g4 ?_
        refine w_null rfl ?_
        refine w_bipush (n := (-9)) rfl rfl rfl ?_
        refine w_static (as := [vr (aR s (fR s l0 0) l4), vi (fI s (aR s (fR s l0 0) l4) 4), vr 2, vi (-9)]) (r := []) rfl rfl rfl rfl rfl (wc_mono H (Nat.le_refl _) ?_)
        rintro _ s6 ⟨r7, rfl, H⟩
        show wk iv L h0 (d + 1) 216 63 [lr l0, lr l1, lr l2, li l3, li l4, lr (aR s (fR s l0 0) l4)] [vr r7] s6 (qi F)
        refine w_astore rfl rfl ?_
        refine w_aload rfl rfl ?_
        refine c_null rfl (fun h => ?_) (fun h => ?_)
        · replace H := H.1 h
          refine w_iconst (n := 1) rfl rfl ?_
          refine w_goto rfl ?_
          refine w_istore rfl rfl ?_
          refine w_iload rfl rfl ?_
          refine w_if_eq rfl (fun h => absurd h (by decide)) (fun _ => ?_)
          refine w_aload_n rfl rfl ?_
          refine w_aload rfl rfl ?_
          obtain ⟨g8, H⟩ := H
          refine c_get rfl rfl rfl g8 ?_
          refine w_null rfl ?_
          refine w_bipush (n := (-9)) rfl rfl rfl ?_
          refine w_static (as := [vr l2, vi (fI s6 (aR s (fR s l0 0) l4) 4), vr 2, vi (-9)]) (r := []) rfl rfl rfl rfl rfl (wc_mono H (Nat.le_refl _) ?_)
          rintro _ s9 ⟨r10, rfl, H⟩
          show wk iv L h0 (d + 1) 216 104 [lr l0, lr l1, lr l2, li l3, li l4, lr (aR s (fR s l0 0) l4), lr r7, li 1] [vr r10] s9 (qi F)
          refine w_aload rfl rfl ?_
          obtain ⟨g11, H⟩ := H
          obtain ⟨g12, H⟩ := H
          refine c_acmp_eq rfl g11 g12 (fun h => ?_) (fun h => ?_)
          · replace H := H.1 h
            obtain ⟨g13, H⟩ := H
            refine w_iinc rfl rfl rfl g13 ?_
            refine w_goto rfl ?_
            exact wp_ls (sl_s (sl_s (sl_s (sl_s (sl_s (sl_0)))))) H
          · replace H := H.2 h
            refine w_iconst (n := 1) rfl rfl ?_
            exact w_iretz rfl rfl (by decide) ⟨_, rfl, H⟩
        · replace H := H.2 h
          refine w_aload_n rfl rfl ?_
          refine w_aload rfl rfl ?_
          refine w_aload_n rfl rfl ?_
          obtain ⟨g14, H⟩ := H
          refine c_virt (p := l0) (as := [vr r7, vr l1]) (r := []) rfl rfl rfl rfl rfl rfl g14 (wc_mono H (Nat.le_refl _) ?_)
          rintro _ s15 ⟨r16, rfl, H⟩
          show wk iv L h0 (d + 1) 216 77 [lr l0, lr l1, lr l2, li l3, li l4, lr (aR s (fR s l0 0) l4), lr r7] [vi r16] s15 (qi F)
          refine w_if_ne rfl (fun h => ?_) (fun h => ?_)
          · replace H := H.1 h
            refine w_iconst (n := 0) rfl rfl ?_
            refine w_istore rfl rfl ?_
            refine w_iload rfl rfl ?_
            refine w_if_eq rfl (fun _ => ?_) (fun h => absurd h (by decide))
            obtain ⟨g17, H⟩ := H
            refine w_iinc rfl rfl rfl g17 ?_
            refine w_goto rfl ?_
            exact wp_ls (sl_s (sl_s (sl_s (sl_s (sl_s (sl_0)))))) H
          · replace H := H.2 h
            refine w_iconst (n := 1) rfl rfl ?_
            refine w_goto rfl ?_
            refine w_istore rfl rfl ?_
            refine w_iload rfl rfl ?_
            refine w_if_eq rfl (fun h => absurd h (by decide)) (fun _ => ?_)
            refine w_aload_n rfl rfl ?_
            refine w_aload rfl rfl ?_
            obtain ⟨g18, H⟩ := H
            refine c_get rfl rfl rfl g18 ?_
            refine w_null rfl ?_
            refine w_bipush (n := (-9)) rfl rfl rfl ?_
            refine w_static (as := [vr l2, vi (fI s15 (aR s (fR s l0 0) l4) 4), vr 2, vi (-9)]) (r := []) rfl rfl rfl rfl rfl (wc_mono H (Nat.le_refl _) ?_)
            rintro _ s19 ⟨r20, rfl, H⟩
            show wk iv L h0 (d + 1) 216 104 [lr l0, lr l1, lr l2, li l3, li l4, lr (aR s (fR s l0 0) l4), lr r7, li 1] [vr r20] s19 (qi F)
            refine w_aload rfl rfl ?_
            obtain ⟨g21, H⟩ := H
            obtain ⟨g22, H⟩ := H
            refine c_acmp_eq rfl g21 g22 (fun h => ?_) (fun h => ?_)
            · replace H := H.1 h
              obtain ⟨g23, H⟩ := H
              refine w_iinc rfl rfl rfl g23 ?_
              refine w_goto rfl ?_
              exact wp_ls (sl_s (sl_s (sl_s (sl_s (sl_s (sl_0)))))) H
            · replace H := H.2 h
              refine w_iconst (n := 1) rfl rfl ?_
              exact w_iretz rfl rfl (by decide) ⟨_, rfl, H⟩

/-- HoleDesk$Sheet.noteReasons()V -/
theorem C217 {iv : List (Int × Int)} {L : Nat} {h0 : MH} {d : Nat} {s : SC} {a0 : Nat} {F : SC → Prop} (H : wk iv L h0 d 217 2 [lr a0, li 0] [] s (qv F)) : ck iv L h0 d 217 [vr a0] s (qv F) := by
  show wk iv L h0 d 217 0 [lr a0] [] s (qv F)
  refine w_iconst (n := 0) rfl rfl ?_
  refine w_istore_n rfl rfl ?_
  exact wp_ls (sl_s (sl_s (sl_0))) H

/-- HoleDesk$Sheet.noteReasons()V at 2 -/
theorem C217_2 {iv : List (Int × Int)} {L : Nat} {h0 : MH} {d : Nat} {s : SC} {l0 : Nat} {l1 : Int} {F : SC → Prop} (H : (kl s l0 = 8) ∧ ((fI s l0 3 ≤ l1 → F s) ∧ (l1 < fI s l0 3 → (kl s (fR s l0 0) = 103) ∧ (0 ≤ l1 ∧ l1 < le s (fR s l0 0)) ∧ (kl s (aR s (fR s l0 0) l1) = 5) ∧ (-2147483648 ≤ l1 + 1 ∧ l1 + 1 ≤ 2147483647) ∧ wk iv L h0 d 217 2 [lr l0, li (l1 + 1)] [] (uI s (aR s (fR s l0 0) l1) 11 (fI s (aR s (fR s l0 0) l1) 10)) (qv F)))) : wk iv L h0 d 217 2 [lr l0, li l1] [] s (qv F) := by
  refine w_iload_n rfl rfl ?_
  refine w_aload_n rfl rfl ?_
  obtain ⟨g1, H⟩ := H
  refine c_get rfl rfl rfl g1 ?_
  refine w_icmp_ge rfl (fun h => ?_) (fun h => ?_)
  · replace H := H.1 h
    exact w_ret rfl rfl ⟨rfl, H⟩
  · replace H := H.2 h
    refine w_aload_n rfl rfl ?_
    refine c_getr rfl rfl rfl g1 ?_
    refine w_iload_n rfl rfl ?_
    obtain ⟨g2, H⟩ := H
    obtain ⟨g3, H⟩ := H
    refine c_aald (t := 3) rfl ⟨g2, by decide, by decide⟩ g3 ?_
    refine w_aload_n rfl rfl ?_
    refine c_getr rfl rfl rfl g1 ?_
    refine w_iload_n rfl rfl ?_
    refine c_aald (t := 3) rfl ⟨g2, by decide, by decide⟩ g3 ?_
    obtain ⟨g4, H⟩ := H
    refine c_get rfl rfl rfl g4 ?_
    refine c_put rfl rfl rfl rfl g4 ?_
    obtain ⟨g5, H⟩ := H
    refine w_iinc rfl rfl rfl g5 ?_
    refine w_goto rfl ?_
    exact wp_ls (sl_s (sl_s (sl_0))) H

/-- HoleDesk$Sheet.reasonsChanged()Z -/
theorem C218 {iv : List (Int × Int)} {L : Nat} {h0 : MH} {d : Nat} {s : SC} {a0 : Nat} {F : Int → SC → Prop} (H : wk iv L h0 d 218 2 [lr a0, li 0] [] s (qi F)) : ck iv L h0 d 218 [vr a0] s (qi F) := by
  show wk iv L h0 d 218 0 [lr a0] [] s (qi F)
  refine w_iconst (n := 0) rfl rfl ?_
  refine w_istore_n rfl rfl ?_
  exact wp_ls (sl_s (sl_s (sl_0))) H

/-- HoleDesk$Sheet.reasonsChanged()Z at 2 -/
theorem C218_2 {iv : List (Int × Int)} {L : Nat} {h0 : MH} {d : Nat} {s : SC} {l0 : Nat} {l1 : Int} {F : Int → SC → Prop} (H : (kl s l0 = 8) ∧ ((fI s l0 3 ≤ l1 → F 0 s) ∧ (l1 < fI s l0 3 → (kl s (fR s l0 0) = 103) ∧ (0 ≤ l1 ∧ l1 < le s (fR s l0 0)) ∧ (kl s (aR s (fR s l0 0) l1) = 5) ∧ ((fI s (aR s (fR s l0 0) l1) 11 = (-9) → (-2147483648 ≤ l1 + 1 ∧ l1 + 1 ≤ 2147483647) ∧ wk iv L h0 d 218 2 [lr l0, li (l1 + 1)] [] s (qi F)) ∧ (fI s (aR s (fR s l0 0) l1) 11 ≠ (-9) → ((fI s (aR s (fR s l0 0) l1) 11 = fI s (aR s (fR s l0 0) l1) 10 → (-2147483648 ≤ l1 + 1 ∧ l1 + 1 ≤ 2147483647) ∧ wk iv L h0 d 218 2 [lr l0, li (l1 + 1)] [] s (qi F)) ∧ (fI s (aR s (fR s l0 0) l1) 11 ≠ fI s (aR s (fR s l0 0) l1) 10 → F 1 s))))))) : wk iv L h0 d 218 2 [lr l0, li l1] [] s (qi F) := by
  refine w_iload_n rfl rfl ?_
  refine w_aload_n rfl rfl ?_
  obtain ⟨g1, H⟩ := H
  refine c_get rfl rfl rfl g1 ?_
  refine w_icmp_ge rfl (fun h => ?_) (fun h => ?_)
  · replace H := H.1 h
    refine w_iconst (n := 0) rfl rfl ?_
    exact w_iretz rfl rfl (by decide) ⟨_, rfl, H⟩
  · replace H := H.2 h
    refine w_aload_n rfl rfl ?_
    refine c_getr rfl rfl rfl g1 ?_
    refine w_iload_n rfl rfl ?_
    obtain ⟨g2, H⟩ := H
    obtain ⟨g3, H⟩ := H
    refine c_aald (t := 3) rfl ⟨g2, by decide, by decide⟩ g3 ?_
    refine w_astore_n rfl rfl ?_
    refine w_aload_n rfl rfl ?_
    obtain ⟨g4, H⟩ := H
    refine c_get rfl rfl rfl g4 ?_
    refine w_bipush (n := (-9)) rfl rfl rfl ?_
    refine w_icmp_eq rfl (fun h => ?_) (fun h => ?_)
    · replace H := H.1 h
      obtain ⟨g5, H⟩ := H
      refine w_iinc rfl rfl rfl g5 ?_
      refine w_goto rfl ?_
      exact wp_ls (sl_s (sl_s (sl_0))) H
    · replace H := H.2 h
      refine w_aload_n rfl rfl ?_
      refine c_get rfl rfl rfl g4 ?_
      refine w_aload_n rfl rfl ?_
      refine c_get rfl rfl rfl g4 ?_
      refine w_icmp_eq rfl (fun h => ?_) (fun h => ?_)
      · replace H := H.1 h
        obtain ⟨g6, H⟩ := H
        refine w_iinc rfl rfl rfl g6 ?_
        refine w_goto rfl ?_
        exact wp_ls (sl_s (sl_s (sl_0))) H
      · replace H := H.2 h
        refine w_iconst (n := 1) rfl rfl ?_
        exact w_iretz rfl rfl (by decide) ⟨_, rfl, H⟩

/-- HoleDesk$Sheet.remember()V -/
theorem C219 {iv : List (Int × Int)} {L : Nat} {h0 : MH} {d : Nat} {s : SC} {a0 : Nat} {F : SC → Prop} (H : (kl s a0 = 8) ∧ (-2147483648 ≤ (fI s a0 6) + 1 ∧ (fI s a0 6) + 1 ≤ 2147483647) ∧ (-2147483648 ≤ ((fI s a0 6) + 1).tdiv 20 ∧ ((fI s a0 6) + 1).tdiv 20 ≤ 2147483647) ∧ (-2147483648 ≤ ((fI s a0 6) + 1) - ((fI s a0 6) + 1).tdiv 20 * 20 ∧ ((fI s a0 6) + 1) - ((fI s a0 6) + 1).tdiv 20 * 20 ≤ 2147483647) ∧ (kl s (fR s a0 5) = 104) ∧ (0 ≤ fI (uI s a0 6 (((fI s a0 6) + 1) - ((fI s a0 6) + 1).tdiv 20 * 20)) a0 6 ∧ fI (uI s a0 6 (((fI s a0 6) + 1) - ((fI s a0 6) + 1).tdiv 20 * 20)) a0 6 < le s (fR s a0 5)) ∧ (kl s (aR s (fR s a0 5) (fI (uI s a0 6 (((fI s a0 6) + 1) - ((fI s a0 6) + 1).tdiv 20 * 20)) a0 6)) = 9) ∧ ck iv L h0 d 222 [vr (aR s (fR s a0 5) (fI (uI s a0 6 (((fI s a0 6) + 1) - ((fI s a0 6) + 1).tdiv 20 * 20)) a0 6)), vr a0] (uI s a0 6 (((fI s a0 6) + 1) - ((fI s a0 6) + 1).tdiv 20 * 20)) (qv fun s8 => (kl s8 a0 = 8) ∧ (-2147483648 ≤ (fI s8 a0 7) + 1 ∧ (fI s8 a0 7) + 1 ≤ 2147483647) ∧ F (uI s8 a0 7 (if 20 < (fI s8 a0 7) + 1 then 20 else (fI s8 a0 7) + 1)))) : ck iv L h0 (d + 1) 219 [vr a0] s (qv F) := by
  show wk iv L h0 (d + 1) 219 0 [lr a0] [] s (qv F)
  refine w_aload_n rfl rfl ?_
  refine w_aload_n rfl rfl ?_
  obtain ⟨g1, H⟩ := H
  refine c_get rfl rfl rfl g1 ?_
  refine w_iconst (n := 1) rfl rfl ?_
  obtain ⟨g2, H⟩ := H
  refine w_iadd rfl g2 ?_
  refine w_bipush (n := 20) rfl rfl rfl ?_
  obtain ⟨g3, H⟩ := H
  obtain ⟨g4, H⟩ := H
  refine w_irem rfl (by decide) g3 g4 ?_
  refine c_put rfl rfl rfl rfl g1 ?_
  refine w_aload_n rfl rfl ?_
  refine c_getr rfl rfl rfl g1 ?_
  show wk iv L h0 (d + 1) 219 17 [lr a0] [vr (fR s a0 5)] (uI s a0 6 (((fI s a0 6) + 1) - ((fI s a0 6) + 1).tdiv 20 * 20)) (qv F)
  refine w_aload_n rfl rfl ?_
  refine c_get rfl rfl rfl g1 ?_
  show wk iv L h0 (d + 1) 219 21 [lr a0] [vi (fI (uI s a0 6 (((fI s a0 6) + 1) - ((fI s a0 6) + 1).tdiv 20 * 20)) a0 6), vr (fR s a0 5)] (uI s a0 6 (((fI s a0 6) + 1) - ((fI s a0 6) + 1).tdiv 20 * 20)) (qv F)
  obtain ⟨g5, H⟩ := H
  obtain ⟨g6, H⟩ := H
  refine c_aald (t := 4) rfl ⟨g5, by decide, by decide⟩ g6 ?_
  show wk iv L h0 (d + 1) 219 22 [lr a0] [vr (aR s (fR s a0 5) (fI (uI s a0 6 (((fI s a0 6) + 1) - ((fI s a0 6) + 1).tdiv 20 * 20)) a0 6))] (uI s a0 6 (((fI s a0 6) + 1) - ((fI s a0 6) + 1).tdiv 20 * 20)) (qv F)
  refine w_aload_n rfl rfl ?_
  obtain ⟨g7, H⟩ := H
  refine c_virt (p := (aR s (fR s a0 5) (fI (uI s a0 6 (((fI s a0 6) + 1) - ((fI s a0 6) + 1).tdiv 20 * 20)) a0 6))) (as := [vr a0]) (r := []) rfl rfl rfl rfl rfl rfl g7 (wc_mono H (Nat.le_refl _) ?_)
  rintro _ s8 ⟨rfl, H⟩
  show wk iv L h0 (d + 1) 219 26 [lr a0] [] s8 (qv F)
  refine w_aload_n rfl rfl ?_
  refine w_aload_n rfl rfl ?_
  obtain ⟨g9, H⟩ := H
  refine c_get rfl rfl rfl g9 ?_
  refine w_iconst (n := 1) rfl rfl ?_
  obtain ⟨g10, H⟩ := H
  refine w_iadd rfl g10 ?_
  refine w_bipush (n := 20) rfl rfl rfl ?_
  refine c_min rfl rfl ?_
  refine c_put rfl rfl rfl rfl g9 ?_
  exact w_ret rfl rfl ⟨rfl, H⟩

/-- HoleDesk$Sheet.restore()V -/
theorem C220 {iv : List (Int × Int)} {L : Nat} {h0 : MH} {d : Nat} {s : SC} {a0 : Nat} {F : SC → Prop} (H : (kl s a0 = 8) ∧ (kl s (fR s a0 5) = 104) ∧ (0 ≤ fI s a0 6 ∧ fI s a0 6 < le s (fR s a0 5)) ∧ (kl s (aR s (fR s a0 5) (fI s a0 6)) = 9) ∧ ck iv L h0 d 223 [vr (aR s (fR s a0 5) (fI s a0 6)), vr a0] s (qv fun s5 => (kl s5 a0 = 8) ∧ (-2147483648 ≤ (fI s5 a0 6) + 20 ∧ (fI s5 a0 6) + 20 ≤ 2147483647) ∧ (-2147483648 ≤ ((fI s5 a0 6) + 20) - 1 ∧ ((fI s5 a0 6) + 20) - 1 ≤ 2147483647) ∧ (-2147483648 ≤ (((fI s5 a0 6) + 20) - 1).tdiv 20 ∧ (((fI s5 a0 6) + 20) - 1).tdiv 20 ≤ 2147483647) ∧ (-2147483648 ≤ (((fI s5 a0 6) + 20) - 1) - (((fI s5 a0 6) + 20) - 1).tdiv 20 * 20 ∧ (((fI s5 a0 6) + 20) - 1) - (((fI s5 a0 6) + 20) - 1).tdiv 20 * 20 ≤ 2147483647) ∧ (-2147483648 ≤ (fI s5 a0 7) - 1 ∧ (fI s5 a0 7) - 1 ≤ 2147483647) ∧ F (uI (uI s5 a0 6 ((((fI s5 a0 6) + 20) - 1) - (((fI s5 a0 6) + 20) - 1).tdiv 20 * 20)) a0 7 ((fI s5 a0 7) - 1)))) : ck iv L h0 (d + 1) 220 [vr a0] s (qv F) := by
  show wk iv L h0 (d + 1) 220 0 [lr a0] [] s (qv F)
  refine w_aload_n rfl rfl ?_
  obtain ⟨g1, H⟩ := H
  refine c_getr rfl rfl rfl g1 ?_
  refine w_aload_n rfl rfl ?_
  refine c_get rfl rfl rfl g1 ?_
  obtain ⟨g2, H⟩ := H
  obtain ⟨g3, H⟩ := H
  refine c_aald (t := 4) rfl ⟨g2, by decide, by decide⟩ g3 ?_
  refine w_aload_n rfl rfl ?_
  obtain ⟨g4, H⟩ := H
  refine c_virt (p := (aR s (fR s a0 5) (fI s a0 6))) (as := [vr a0]) (r := []) rfl rfl rfl rfl rfl rfl g4 (wc_mono H (Nat.le_refl _) ?_)
  rintro _ s5 ⟨rfl, H⟩
  show wk iv L h0 (d + 1) 220 13 [lr a0] [] s5 (qv F)
  refine w_aload_n rfl rfl ?_
  refine w_aload_n rfl rfl ?_
  obtain ⟨g6, H⟩ := H
  refine c_get rfl rfl rfl g6 ?_
  refine w_bipush (n := 20) rfl rfl rfl ?_
  obtain ⟨g7, H⟩ := H
  refine w_iadd rfl g7 ?_
  refine w_iconst (n := 1) rfl rfl ?_
  obtain ⟨g8, H⟩ := H
  refine w_isub rfl g8 ?_
  refine w_bipush (n := 20) rfl rfl rfl ?_
  obtain ⟨g9, H⟩ := H
  obtain ⟨g10, H⟩ := H
  refine w_irem rfl (by decide) g9 g10 ?_
  refine c_put rfl rfl rfl rfl g6 ?_
  refine w_aload_n rfl rfl ?_
  refine w_dup rfl rfl ?_
  refine c_get rfl rfl rfl g6 ?_
  show wk iv L h0 (d + 1) 220 34 [lr a0] [vi (fI s5 a0 7), vr a0] (uI s5 a0 6 ((((fI s5 a0 6) + 20) - 1) - (((fI s5 a0 6) + 20) - 1).tdiv 20 * 20)) (qv F)
  refine w_iconst (n := 1) rfl rfl ?_
  obtain ⟨g11, H⟩ := H
  refine w_isub rfl g11 ?_
  refine c_put rfl rfl rfl rfl g6 ?_
  exact w_ret rfl rfl ⟨rfl, H⟩

/-- HoleDesk$Snapshot.<init>()V -/
theorem C221 {iv : List (Int × Int)} {L : Nat} {h0 : MH} {d : Nat} {s : SC} {a0 : Nat} {F : SC → Prop} (H : (a0 ≠ 2) ∧ (353 ≤ nxt s) ∧ (kl (nA s 3 60) a0 = 9) ∧ (353 ≤ nxt s + 1) ∧ (kl (nA (nA s 3 60) 3 60) a0 = 9) ∧ (353 ≤ nxt s + 2) ∧ (kl (nA (nA (nA s 3 60) 3 60) 0 60) a0 = 9) ∧ (353 ≤ nxt s + 3) ∧ (kl (nA (nA (nA (nA s 3 60) 3 60) 0 60) 0 60) a0 = 9) ∧ F (uR (uI (uR (nA (uR (nA (uR (nA (uR (nA s 3 60) a0 0 (nxt s)) 3 60) a0 1 (nxt s + 1)) 0 60) a0 2 (nxt s + 2)) 0 60) a0 3 (nxt s + 3)) a0 4 0) a0 5 2)) : ck iv L h0 d 221 [vr a0] s (qv F) := by
  show wk iv L h0 d 221 0 [lr a0] [] s (qv F)
  refine w_aload_n rfl rfl ?_
  obtain ⟨g1, H⟩ := H
  refine c_oinit rfl rfl g1 ?_
  refine w_aload_n rfl rfl ?_
  refine w_bipush (n := 60) rfl rfl rfl ?_
  obtain ⟨g2, H⟩ := H
  refine c_anewa rfl rfl ⟨by decide, by decide⟩ g2 ?_
  show wk iv L h0 d 221 10 [lr a0] [vr (nxt s), vr a0] (nA s 3 60) (qv F)
  obtain ⟨g3, H⟩ := H
  refine c_putr rfl rfl rfl rfl g3 ?_
  refine w_aload_n rfl rfl ?_
  refine w_bipush (n := 60) rfl rfl rfl ?_
  obtain ⟨g4, H⟩ := H
  refine c_anewa rfl rfl ⟨by decide, by decide⟩ g4 ?_
  show wk iv L h0 d 221 19 [lr a0] [vr (nxt s + 1), vr a0] (nA (uR (nA s 3 60) a0 0 (nxt s)) 3 60) (qv F)
  obtain ⟨g5, H⟩ := H
  refine c_putr rfl rfl rfl rfl g5 ?_
  refine w_aload_n rfl rfl ?_
  refine w_bipush (n := 60) rfl rfl rfl ?_
  obtain ⟨g6, H⟩ := H
  refine c_newa rfl rfl ⟨by decide, by decide⟩ g6 ?_
  show wk iv L h0 d 221 27 [lr a0] [vr (nxt s + 2), vr a0] (nA (uR (nA (uR (nA s 3 60) a0 0 (nxt s)) 3 60) a0 1 (nxt s + 1)) 0 60) (qv F)
  obtain ⟨g7, H⟩ := H
  refine c_putr rfl rfl rfl rfl g7 ?_
  refine w_aload_n rfl rfl ?_
  refine w_bipush (n := 60) rfl rfl rfl ?_
  obtain ⟨g8, H⟩ := H
  refine c_newa rfl rfl ⟨by decide, by decide⟩ g8 ?_
  show wk iv L h0 d 221 35 [lr a0] [vr (nxt s + 3), vr a0] (nA (uR (nA (uR (nA (uR (nA s 3 60) a0 0 (nxt s)) 3 60) a0 1 (nxt s + 1)) 0 60) a0 2 (nxt s + 2)) 0 60) (qv F)
  obtain ⟨g9, H⟩ := H
  refine c_putr rfl rfl rfl rfl g9 ?_
  refine w_aload_n rfl rfl ?_
  refine w_iconst (n := 0) rfl rfl ?_
  refine c_put rfl rfl rfl rfl g9 ?_
  refine w_aload_n rfl rfl ?_
  refine w_null rfl ?_
  refine c_putr rfl rfl rfl rfl g9 ?_
  exact w_ret rfl rfl ⟨rfl, H⟩

/-- HoleDesk$Snapshot.noteAll(LHoleDesk$Sheet;)V -/
theorem C222 {iv : List (Int × Int)} {L : Nat} {h0 : MH} {d : Nat} {s : SC} {a0 : Nat} {a1 : Nat} {F : SC → Prop} (H : (kl s a1 = 8) ∧ (kl s a0 = 9) ∧ wk iv L h0 d 222 18 [lr a0, lr a1, li 0] [] (uR (uI s a0 4 (fI s a1 3)) a0 5 (fR s a1 2)) (qv F)) : ck iv L h0 d 222 [vr a0, vr a1] s (qv F) := by
  show wk iv L h0 d 222 0 [lr a0, lr a1] [] s (qv F)
  refine w_aload_n rfl rfl ?_
  refine w_aload_n rfl rfl ?_
  obtain ⟨g1, H⟩ := H
  refine c_get rfl rfl rfl g1 ?_
  obtain ⟨g2, H⟩ := H
  refine c_put rfl rfl rfl rfl g2 ?_
  refine w_aload_n rfl rfl ?_
  refine w_aload_n rfl rfl ?_
  refine c_getr rfl rfl rfl g1 ?_
  show wk iv L h0 d 222 13 [lr a0, lr a1] [vr (fR s a1 2), vr a0] (uI s a0 4 (fI s a1 3)) (qv F)
  refine c_putr rfl rfl rfl rfl g2 ?_
  refine w_iconst (n := 0) rfl rfl ?_
  refine w_istore_n rfl rfl ?_
  exact wp_ls (sl_s (sl_s (sl_s (sl_0)))) H

/-- HoleDesk$Snapshot.noteAll(LHoleDesk$Sheet;)V at 18 -/
theorem C222_18 {iv : List (Int × Int)} {L : Nat} {h0 : MH} {d : Nat} {s : SC} {l0 : Nat} {l1 : Nat} {l2 : Int} {F : SC → Prop} (H : (kl s l0 = 9) ∧ ((fI s l0 4 ≤ l2 → F s) ∧ (l2 < fI s l0 4 → (kl s l1 = 8) ∧ (kl s (fR s l1 0) = 103) ∧ (0 ≤ l2 ∧ l2 < le s (fR s l1 0)) ∧ (kl s (fR s l0 0) = 103) ∧ (0 ≤ l2 ∧ l2 < le s (fR s l0 0)) ∧ (aR s (fR s l1 0) l2 = 2 ∨ kl s (aR s (fR s l1 0) l2) = 5) ∧ (kl s (aR s (fR s l1 0) l2) = 5) ∧ (kl s (fR s l0 1) = 103) ∧ (0 ≤ l2 ∧ l2 < le s (fR s l0 1)) ∧ (fR s (aR s (fR s l1 0) l2) 5 = 2 ∨ kl s (fR s (aR s (fR s l1 0) l2) 5) = 5) ∧ (kl s (fR s l0 2) = 100) ∧ (0 ≤ l2 ∧ l2 < le s (fR s l0 2)) ∧ (kl s (fR s l0 3) = 100) ∧ (0 ≤ l2 ∧ l2 < le s (fR s l0 3)) ∧ (-2147483648 ≤ l2 + 1 ∧ l2 + 1 ≤ 2147483647) ∧ wk iv L h0 d 222 18 [lr l0, lr l1, li (l2 + 1)] [] (uA (uA (uB (uB s (fR s l0 0) l2 (aR s (fR s l1 0) l2)) (fR s l0 1) l2 (fR s (aR s (fR s l1 0) l2) 5)) (fR s l0 2) l2 (fI s (aR s (fR s l1 0) l2) 6)) (fR s l0 3) l2 (fI s (aR s (fR s l1 0) l2) 4)) (qv F)))) : wk iv L h0 d 222 18 [lr l0, lr l1, li l2] [] s (qv F) := by
  refine w_iload_n rfl rfl ?_
  refine w_aload_n rfl rfl ?_
  obtain ⟨g1, H⟩ := H
  refine c_get rfl rfl rfl g1 ?_
  refine w_icmp_ge rfl (fun h => ?_) (fun h => ?_)
  · replace H := H.1 h
    exact w_ret rfl rfl ⟨rfl, H⟩
  · replace H := H.2 h
    refine w_aload_n rfl rfl ?_
    obtain ⟨g2, H⟩ := H
    refine c_getr rfl rfl rfl g2 ?_
    refine w_iload_n rfl rfl ?_
    obtain ⟨g3, H⟩ := H
    obtain ⟨g4, H⟩ := H
    refine c_aald (t := 3) rfl ⟨g3, by decide, by decide⟩ g4 ?_
    refine w_astore_n rfl rfl ?_
    refine w_aload_n rfl rfl ?_
    refine c_getr rfl rfl rfl g1 ?_
    refine w_iload_n rfl rfl ?_
    refine w_aload_n rfl rfl ?_
    obtain ⟨g5, H⟩ := H
    obtain ⟨g6, H⟩ := H
    obtain ⟨g7, H⟩ := H
    refine c_aast rfl rfl g5 g6 (by rcases g7 with e | e; exact Or.inl e; exact Or.inr ⟨e, by decide⟩) ?_
    refine w_aload_n rfl rfl ?_
    refine c_getr rfl rfl rfl g1 ?_
    show wk iv L h0 d 222 44 [lr l0, lr l1, li l2, lr (aR s (fR s l1 0) l2)] [vr (fR s l0 1)] (uB s (fR s l0 0) l2 (aR s (fR s l1 0) l2)) (qv F)
    refine w_iload_n rfl rfl ?_
    refine w_aload_n rfl rfl ?_
    obtain ⟨g8, H⟩ := H
    refine c_getr rfl rfl rfl g8 ?_
    show wk iv L h0 d 222 49 [lr l0, lr l1, li l2, lr (aR s (fR s l1 0) l2)] [vr (fR s (aR s (fR s l1 0) l2) 5), vi l2, vr (fR s l0 1)] (uB s (fR s l0 0) l2 (aR s (fR s l1 0) l2)) (qv F)
    obtain ⟨g9, H⟩ := H
    obtain ⟨g10, H⟩ := H
    obtain ⟨g11, H⟩ := H
    refine c_aast rfl rfl g9 g10 (by rcases g11 with e | e; exact Or.inl e; exact Or.inr ⟨e, by decide⟩) ?_
    refine w_aload_n rfl rfl ?_
    refine c_getr rfl rfl rfl g1 ?_
    show wk iv L h0 d 222 54 [lr l0, lr l1, li l2, lr (aR s (fR s l1 0) l2)] [vr (fR s l0 2)] (uB (uB s (fR s l0 0) l2 (aR s (fR s l1 0) l2)) (fR s l0 1) l2 (fR s (aR s (fR s l1 0) l2) 5)) (qv F)
    refine w_iload_n rfl rfl ?_
    refine w_aload_n rfl rfl ?_
    refine c_get rfl rfl rfl g8 ?_
    show wk iv L h0 d 222 59 [lr l0, lr l1, li l2, lr (aR s (fR s l1 0) l2)] [vi (fI s (aR s (fR s l1 0) l2) 6), vi l2, vr (fR s l0 2)] (uB (uB s (fR s l0 0) l2 (aR s (fR s l1 0) l2)) (fR s l0 1) l2 (fR s (aR s (fR s l1 0) l2) 5)) (qv F)
    obtain ⟨g12, H⟩ := H
    obtain ⟨g13, H⟩ := H
    refine c_ast rfl g12 g13 ?_
    refine w_aload_n rfl rfl ?_
    refine c_getr rfl rfl rfl g1 ?_
    show wk iv L h0 d 222 64 [lr l0, lr l1, li l2, lr (aR s (fR s l1 0) l2)] [vr (fR s l0 3)] (uA (uB (uB s (fR s l0 0) l2 (aR s (fR s l1 0) l2)) (fR s l0 1) l2 (fR s (aR s (fR s l1 0) l2) 5)) (fR s l0 2) l2 (fI s (aR s (fR s l1 0) l2) 6)) (qv F)
    refine w_iload_n rfl rfl ?_
    refine w_aload_n rfl rfl ?_
    refine c_get rfl rfl rfl g8 ?_
    show wk iv L h0 d 222 69 [lr l0, lr l1, li l2, lr (aR s (fR s l1 0) l2)] [vi (fI s (aR s (fR s l1 0) l2) 4), vi l2, vr (fR s l0 3)] (uA (uB (uB s (fR s l0 0) l2 (aR s (fR s l1 0) l2)) (fR s l0 1) l2 (fR s (aR s (fR s l1 0) l2) 5)) (fR s l0 2) l2 (fI s (aR s (fR s l1 0) l2) 6)) (qv F)
    obtain ⟨g14, H⟩ := H
    obtain ⟨g15, H⟩ := H
    refine c_ast rfl g14 g15 ?_
    obtain ⟨g16, H⟩ := H
    refine w_iinc rfl rfl rfl g16 ?_
    refine w_goto rfl ?_
    exact wp_ls (sl_s (sl_s (sl_s (sl_0)))) H
