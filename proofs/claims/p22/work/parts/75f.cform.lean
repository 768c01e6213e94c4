/-! What the methods of the desk come to. Printed by wip/gen2/gens.py. -/
/-- HoleDesk$Worker.goOnSights(LHoleDesk$Seen;I)LHoleDesk$Seen; -/
theorem C244 {iv : List (Int × Int)} {L : Nat} {h0 : MH} {d : Nat} {s : SC} {a0 : Nat} {a1 : Nat} {a2 : Int} {F : Nat → SC → Prop} (H : wk iv L h0 (d + 1) 244 5 [lr a0, lr a1, li a2, lr 2, li 0] [] s (qa F)) : ck iv L h0 (d + 1) 244 [vr a0, vr a1, vi a2] s (qa F) := by
  show wk iv L h0 (d + 1) 244 0 [lr a0, lr a1, li a2] [] s (qa F)
  refine w_null rfl ?_
  refine w_astore_n rfl rfl ?_
  refine w_iconst (n := 0) rfl rfl ?_
  refine w_istore rfl rfl ?_
  exact wp_ls (sl_s (sl_s (sl_s (sl_s (sl_s (sl_0)))))) H

/-- HoleDesk$Worker.goOnSights(LHoleDesk$Seen;I)LHoleDesk$Seen; at 5 -/
theorem C244_5 {iv : List (Int × Int)} {L : Nat} {h0 : MH} {d : Nat} {s : SC} {l0 : Nat} {l1 : Nat} {l2 : Int} {l4 : Int} {F : Nat → SC → Prop} (H : ((26 ≤ l4 → F 2 s) ∧ (l4 < 26 → (kl s l0 = 11) ∧ ck iv L h0 d 229 [vr l0, vr l1, vi l4] s (qa fun r3 s2 => ((r3 = 2 → (-2147483648 ≤ l4 + 1 ∧ l4 + 1 ≤ 2147483647) ∧ wk iv L h0 (d + 1) 244 5 [lr l0, lr l1, li l2, lr 2, li (l4 + 1)] [] s2 (qa F)) ∧ (r3 ≠ 2 → (kl s2 l0 = 11) ∧ ck iv L h0 d 241 [vr l0, vr r3, vi l2] s2 (qa fun r7 s6 => ((r7 ≠ 2 → (kl s6 l0 = 11) ∧ (kl s6 (fR s6 l0 0) = 6) ∧ ck iv L h0 d 201 [vr (fR s6 l0 0), vi l4, vr r7, vr 2] s6 (qa fun r11 s10 => (-2147483648 ≤ l4 + 1 ∧ l4 + 1 ≤ 2147483647) ∧ wk iv L h0 (d + 1) 244 5 [lr l0, lr l1, li l2, lr r11, li (l4 + 1)] [] s10 (qa F))) ∧ (r7 = 2 → F 2 s6))))))))) : wk iv L h0 (d + 1) 244 5 [lr l0, lr l1, li l2, lr 2, li l4] [] s (qa F) := by
  refine w_iload rfl rfl ?_
  refine w_bipush (n := 26) rfl rfl rfl ?_
  refine w_icmp_ge rfl (fun h => ?_) (fun h => ?_)
  · replace H := H.1 h
    refine w_aload_n rfl rfl ?_
    exact w_aret rfl rfl ⟨_, rfl, H⟩
  · replace H := H.2 h
    refine w_aload_n rfl rfl ?_
    refine w_aload_n rfl rfl ?_
    refine w_iload rfl rfl ?_
    obtain ⟨g1, H⟩ := H
    refine c_virt (p := l0) (as := [vr l1, vi l4]) (r := []) rfl rfl rfl rfl rfl rfl g1 (wc_mono H (Nat.le_refl _) ?_)
    rintro _ s2 ⟨r3, rfl, H⟩
    show wk iv L h0 (d + 1) 244 19 [lr l0, lr l1, li l2, lr 2, li l4] [vr r3] s2 (qa F)
    refine w_astore rfl rfl ?_
    refine w_aload rfl rfl ?_
    refine c_null rfl (fun h => ?_) (fun h => ?_)
    · replace H := H.1 h
      obtain ⟨g4, H⟩ := H
      refine w_iinc rfl rfl rfl g4 ?_
      refine w_goto rfl ?_
      exact wp_ls (sl_s (sl_s (sl_s (sl_s (sl_s (sl_0)))))) H
    · replace H := H.2 h
      refine w_aload_n rfl rfl ?_
      refine w_aload rfl rfl ?_
      refine w_iload_n rfl rfl ?_
      obtain ⟨g5, H⟩ := H
      refine c_virt (p := l0) (as := [vr r3, vi l2]) (r := []) rfl rfl rfl rfl rfl rfl g5 (wc_mono H (Nat.le_refl _) ?_)
      rintro _ s6 ⟨r7, rfl, H⟩
      show wk iv L h0 (d + 1) 244 33 [lr l0, lr l1, li l2, lr 2, li l4, lr r3] [vr r7] s6 (qa F)
      refine w_astore rfl rfl ?_
      refine w_aload rfl rfl ?_
      refine c_nonnull rfl (fun h => ?_) (fun h => ?_)
      · replace H := H.1 h
        refine w_aload_n rfl rfl ?_
        obtain ⟨g8, H⟩ := H
        refine c_getr rfl rfl rfl g8 ?_
        refine w_iload rfl rfl ?_
        refine w_aload rfl rfl ?_
        refine w_aload_n rfl rfl ?_
        obtain ⟨g9, H⟩ := H
        refine c_virt (p := (fR s6 l0 0)) (as := [vi l4, vr r7, vr 2]) (r := []) rfl rfl rfl rfl rfl rfl g9 (wc_mono H (Nat.le_refl _) ?_)
        rintro _ s10 ⟨r11, rfl, H⟩
        show wk iv L h0 (d + 1) 244 54 [lr l0, lr l1, li l2, lr 2, li l4, lr r3, lr r7] [vr r11] s10 (qa F)
        refine w_astore_n rfl rfl ?_
        obtain ⟨g12, H⟩ := H
        refine w_iinc rfl rfl rfl g12 ?_
        refine w_goto rfl ?_
        exact wp_ls (sl_s (sl_s (sl_s (sl_s (sl_s (sl_0)))))) H
      · replace H := H.2 h
        refine w_null rfl ?_
        exact w_aret rfl rfl ⟨_, rfl, H⟩

/-- HoleDesk$Writer.<init>()V -/
theorem C245 {iv : List (Int × Int)} {L : Nat} {h0 : MH} {d : Nat} {s : SC} {a0 : Nat} {F : SC → Prop} (H : (a0 ≠ 2) ∧ (353 ≤ nxt s) ∧ (kl (nA s 6 400) a0 = 12) ∧ (353 ≤ nxt s + 1) ∧ (kl (nA (nA s 6 400) 0 400) a0 = 12) ∧ (353 ≤ nxt s + 2) ∧ (kl (nA (nA (nA s 6 400) 0 400) 6 2005) a0 = 12) ∧ (353 ≤ nxt s + 3) ∧ (kl (nA (nA (nA (nA s 6 400) 0 400) 6 2005) 0 2005) a0 = 12) ∧ F (uI (uR (nA (uR (nA (uI (uR (nA (uI (uR (nA s 6 400) a0 0 (nxt s)) a0 1 0) 0 400) a0 2 (nxt s + 1)) a0 3 0) 6 2005) a0 4 (nxt s + 2)) 0 2005) a0 5 (nxt s + 3)) a0 6 0)) : ck iv L h0 d 245 [vr a0] s (qv F) := by
  show wk iv L h0 d 245 0 [lr a0] [] s (qv F)
  refine w_aload_n rfl rfl ?_
  obtain ⟨g1, H⟩ := H
  refine c_oinit rfl rfl g1 ?_
  refine w_aload_n rfl rfl ?_
  refine w_sipush (n := 400) rfl rfl rfl ?_
  obtain ⟨g2, H⟩ := H
  refine c_anewa rfl rfl ⟨by decide, by decide⟩ g2 ?_
  show wk iv L h0 d 245 11 [lr a0] [vr (nxt s), vr a0] (nA s 6 400) (qv F)
  obtain ⟨g3, H⟩ := H
  refine c_putr rfl rfl rfl rfl g3 ?_
  refine w_aload_n rfl rfl ?_
  refine w_iconst (n := 0) rfl rfl ?_
  refine c_put rfl rfl rfl rfl g3 ?_
  refine w_aload_n rfl rfl ?_
  refine w_sipush (n := 400) rfl rfl rfl ?_
  obtain ⟨g4, H⟩ := H
  refine c_newa rfl rfl ⟨by decide, by decide⟩ g4 ?_
  show wk iv L h0 d 245 25 [lr a0] [vr (nxt s + 1), vr a0] (nA (uI (uR (nA s 6 400) a0 0 (nxt s)) a0 1 0) 0 400) (qv F)
  obtain ⟨g5, H⟩ := H
  refine c_putr rfl rfl rfl rfl g5 ?_
  refine w_aload_n rfl rfl ?_
  refine w_iconst (n := 0) rfl rfl ?_
  refine c_put rfl rfl rfl rfl g5 ?_
  refine w_aload_n rfl rfl ?_
  refine w_sipush (n := 2005) rfl rfl rfl ?_
  obtain ⟨g6, H⟩ := H
  refine c_anewa rfl rfl ⟨by decide, by decide⟩ g6 ?_
  show wk iv L h0 d 245 40 [lr a0] [vr (nxt s + 2), vr a0] (nA (uI (uR (nA (uI (uR (nA s 6 400) a0 0 (nxt s)) a0 1 0) 0 400) a0 2 (nxt s + 1)) a0 3 0) 6 2005) (qv F)
  obtain ⟨g7, H⟩ := H
  refine c_putr rfl rfl rfl rfl g7 ?_
  refine w_aload_n rfl rfl ?_
  refine w_sipush (n := 2005) rfl rfl rfl ?_
  obtain ⟨g8, H⟩ := H
  refine c_newa rfl rfl ⟨by decide, by decide⟩ g8 ?_
  show wk iv L h0 d 245 49 [lr a0] [vr (nxt s + 3), vr a0] (nA (uR (nA (uI (uR (nA (uI (uR (nA s 6 400) a0 0 (nxt s)) a0 1 0) 0 400) a0 2 (nxt s + 1)) a0 3 0) 6 2005) a0 4 (nxt s + 2)) 0 2005) (qv F)
  obtain ⟨g9, H⟩ := H
  refine c_putr rfl rfl rfl rfl g9 ?_
  refine w_aload_n rfl rfl ?_
  refine w_iconst (n := 0) rfl rfl ?_
  refine c_put rfl rfl rfl rfl g9 ?_
  exact w_ret rfl rfl ⟨rfl, H⟩

/-- HoleDesk$Writer.byteAt(I)I -/
theorem C246 {iv : List (Int × Int)} {L : Nat} {h0 : MH} {d : Nat} {s : SC} {a0 : Nat} {a1 : Int} {F : Int → SC → Prop} (H : ((a1 ≠ (-1) → ((a1 < 0 → F (-9) s) ∧ (0 ≤ a1 → (kl s a0 = 12) ∧ ((fI s a0 3 ≤ a1 → F (-9) s) ∧ (a1 < fI s a0 3 → (kl s (fR s a0 2) = 100) ∧ (0 ≤ a1 ∧ a1 < le s (fR s a0 2)) ∧ F (aI s (fR s a0 2) a1) s))))) ∧ (a1 = (-1) → (kl s a0 = 12) ∧ F (fI s a0 3) s))) : ck iv L h0 d 246 [vr a0, vi a1] s (qi F) := by
  show wk iv L h0 d 246 0 [lr a0, li a1] [] s (qi F)
  refine w_iload_n rfl rfl ?_
  refine w_iconst (n := (-1)) rfl rfl ?_
  refine w_icmp_ne rfl (fun h => ?_) (fun h => ?_)
  · replace H := H.1 h
    refine w_iload_n rfl rfl ?_
    refine w_if_lt rfl (fun h => ?_) (fun h => ?_)
    · replace H := H.1 h
      refine w_bipush (n := (-9)) rfl rfl rfl ?_
      exact w_iret rfl rfl ⟨_, rfl, H⟩
    · replace H := H.2 h
      refine w_iload_n rfl rfl ?_
      refine w_aload_n rfl rfl ?_
      obtain ⟨g1, H⟩ := H
      refine c_get rfl rfl rfl g1 ?_
      refine w_icmp_ge rfl (fun h => ?_) (fun h => ?_)
      · replace H := H.1 h
        refine w_bipush (n := (-9)) rfl rfl rfl ?_
        exact w_iret rfl rfl ⟨_, rfl, H⟩
      · replace H := H.2 h
        refine w_aload_n rfl rfl ?_
        refine c_getr rfl rfl rfl g1 ?_
        refine w_iload_n rfl rfl ?_
        obtain ⟨g2, H⟩ := H
        obtain ⟨g3, H⟩ := H
        refine c_ald rfl g2 g3 ?_
        refine w_goto rfl ?_
        exact w_iret rfl rfl ⟨_, rfl, H⟩
  · replace H := H.2 h
    refine w_aload_n rfl rfl ?_
    obtain ⟨g4, H⟩ := H
    refine c_get rfl rfl rfl g4 ?_
    exact w_iret rfl rfl ⟨_, rfl, H⟩

/-- HoleDesk$Writer.writeAll(LHoleDesk$Value;)V -/
theorem C247 {iv : List (Int × Int)} {L : Nat} {h0 : MH} {d : Nat} {s : SC} {a0 : Nat} {a1 : Nat} {F : SC → Prop} (H : (kl s a0 = 12) ∧ ck iv L h0 d 248 [vr a0, vr a1, vi 0] (uI (uI (uI s a0 3 0) a0 1 0) a0 6 0) (qv fun s2 => wk iv L h0 (d + 1) 247 23 [lr a0, ln, li 0] [] s2 (qv F))) : ck iv L h0 (d + 1) 247 [vr a0, vr a1] s (qv F) := by
  show wk iv L h0 (d + 1) 247 0 [lr a0, lr a1] [] s (qv F)
  refine w_aload_n rfl rfl ?_
  refine w_iconst (n := 0) rfl rfl ?_
  obtain ⟨g1, H⟩ := H
  refine c_put rfl rfl rfl rfl g1 ?_
  refine w_aload_n rfl rfl ?_
  refine w_iconst (n := 0) rfl rfl ?_
  refine c_put rfl rfl rfl rfl g1 ?_
  refine w_aload_n rfl rfl ?_
  refine w_iconst (n := 0) rfl rfl ?_
  refine c_put rfl rfl rfl rfl g1 ?_
  refine w_aload_n rfl rfl ?_
  refine w_aload_n rfl rfl ?_
  refine w_iconst (n := 0) rfl rfl ?_
  refine c_virt (p := a0) (as := [vr a1, vi 0]) (r := []) rfl rfl rfl rfl rfl rfl g1 (wc_mono H (Nat.le_refl _) ?_)
  rintro _ s2 ⟨rfl, H⟩
  show wk iv L h0 (d + 1) 247 21 [lr a0, lr a1] [] s2 (qv F)
  refine w_iconst (n := 0) rfl rfl ?_
  refine w_istore_n rfl rfl ?_
  exact wp_ls (sl_s (sl_n (sl_s (sl_0)))) H

/-- HoleDesk$Writer.writeAll(LHoleDesk$Value;)V at 23 -/
theorem C247_23 {iv : List (Int × Int)} {L : Nat} {h0 : MH} {d : Nat} {s : SC} {l0 : Nat} {l2 : Int} {F : SC → Prop} (H : ((400 ≤ l2 → F s) ∧ (l2 < 400 → (kl s l0 = 12) ∧ ((fI s l0 6 ≤ 0 → F s) ∧ (0 < fI s l0 6 → (-2147483648 ≤ (fI s l0 6) - 1 ∧ (fI s l0 6) - 1 ≤ 2147483647) ∧ (kl s (fR s l0 4) = 106) ∧ (0 ≤ fI (uI s l0 6 ((fI s l0 6) - 1)) l0 6 ∧ fI (uI s l0 6 ((fI s l0 6) - 1)) l0 6 < le s (fR s l0 4)) ∧ ((aR s (fR s l0 4) (fI (uI s l0 6 ((fI s l0 6) - 1)) l0 6) = 2 → (kl s (fR s l0 5) = 100) ∧ (0 ≤ fI (uI s l0 6 ((fI s l0 6) - 1)) l0 6 ∧ fI (uI s l0 6 ((fI s l0 6) - 1)) l0 6 < le s (fR s l0 5)) ∧ ((0 ≤ aI s (fR s l0 5) (fI (uI s l0 6 ((fI s l0 6) - 1)) l0 6) → ck iv L h0 d 249 [vr l0, vi (aI s (fR s l0 5) (fI (uI s l0 6 ((fI s l0 6) - 1)) l0 6))] (uI s l0 6 ((fI s l0 6) - 1)) (qv fun s7 => (-2147483648 ≤ l2 + 1 ∧ l2 + 1 ≤ 2147483647) ∧ wk iv L h0 (d + 1) 247 23 [lr l0, ln, li (l2 + 1)] [] s7 (qv F))) ∧ (aI s (fR s l0 5) (fI (uI s l0 6 ((fI s l0 6) - 1)) l0 6) < 0 → (-2147483648 ≤ (-1) - (aI s (fR s l0 5) (fI (uI s l0 6 ((fI s l0 6) - 1)) l0 6)) ∧ (-1) - (aI s (fR s l0 5) (fI (uI s l0 6 ((fI s l0 6) - 1)) l0 6)) ≤ 2147483647) ∧ ck iv L h0 d 251 [vr l0, vi ((-1) - (aI s (fR s l0 5) (fI (uI s l0 6 ((fI s l0 6) - 1)) l0 6)))] (uI s l0 6 ((fI s l0 6) - 1)) (qv fun s10 => (-2147483648 ≤ l2 + 1 ∧ l2 + 1 ≤ 2147483647) ∧ wk iv L h0 (d + 1) 247 23 [lr l0, ln, li (l2 + 1)] [] s10 (qv F))))) ∧ (aR s (fR s l0 4) (fI (uI s l0 6 ((fI s l0 6) - 1)) l0 6) ≠ 2 → ck iv L h0 d 252 [vr l0, vr (aR s (fR s l0 4) (fI (uI s l0 6 ((fI s l0 6) - 1)) l0 6))] (uI s l0 6 ((fI s l0 6) - 1)) (qv fun s12 => (-2147483648 ≤ l2 + 1 ∧ l2 + 1 ≤ 2147483647) ∧ wk iv L h0 (d + 1) 247 23 [lr l0, ln, li (l2 + 1)] [] s12 (qv F))))))))) : wk iv L h0 (d + 1) 247 23 [lr l0, ln, li l2] [] s (qv F) := by
  refine w_iload_n rfl rfl ?_
  refine w_sipush (n := 400) rfl rfl rfl ?_
  refine w_icmp_ge rfl (fun h => ?_) (fun h => ?_)
  · replace H := H.1 h
    exact w_ret rfl rfl ⟨rfl, H⟩
  · replace H := H.2 h
    refine w_aload_n rfl rfl ?_
    obtain ⟨g1, H⟩ := H
    refine c_get rfl rfl rfl g1 ?_
    refine w_if_le rfl (fun h => ?_) (fun h => ?_)
    · replace H := H.1 h
      exact w_ret rfl rfl ⟨rfl, H⟩
    · replace H := H.2 h
      refine w_aload_n rfl rfl ?_
      refine w_dup rfl rfl ?_
      refine c_get rfl rfl rfl g1 ?_
      refine w_iconst (n := 1) rfl rfl ?_
      obtain ⟨g2, H⟩ := H
      refine w_isub rfl g2 ?_
      refine c_put rfl rfl rfl rfl g1 ?_
      refine w_aload_n rfl rfl ?_
      refine c_getr rfl rfl rfl g1 ?_
      show wk iv L h0 (d + 1) 247 51 [lr l0, ln, li l2] [vr (fR s l0 4)] (uI s l0 6 ((fI s l0 6) - 1)) (qv F)
      refine w_aload_n rfl rfl ?_
      refine c_get rfl rfl rfl g1 ?_
      show wk iv L h0 (d + 1) 247 55 [lr l0, ln, li l2] [vi (fI (uI s l0 6 ((fI s l0 6) - 1)) l0 6), vr (fR s l0 4)] (uI s l0 6 ((fI s l0 6) - 1)) (qv F)
      obtain ⟨g3, H⟩ := H
      obtain ⟨g4, H⟩ := H
      refine c_aald (t := 6) rfl ⟨g3, by decide, by decide⟩ g4 ?_
      show wk iv L h0 (d + 1) 247 56 [lr l0, ln, li l2] [vr (aR s (fR s l0 4) (fI (uI s l0 6 ((fI s l0 6) - 1)) l0 6))] (uI s l0 6 ((fI s l0 6) - 1)) (qv F)
      refine c_null rfl (fun h => ?_) (fun h => ?_)
      · replace H := H.1 h
        refine w_aload_n rfl rfl ?_
        refine c_getr rfl rfl rfl g1 ?_
        show wk iv L h0 (d + 1) 247 79 [lr l0, ln, li l2] [vr (fR s l0 5)] (uI s l0 6 ((fI s l0 6) - 1)) (qv F)
        refine w_aload_n rfl rfl ?_
        refine c_get rfl rfl rfl g1 ?_
        show wk iv L h0 (d + 1) 247 83 [lr l0, ln, li l2] [vi (fI (uI s l0 6 ((fI s l0 6) - 1)) l0 6), vr (fR s l0 5)] (uI s l0 6 ((fI s l0 6) - 1)) (qv F)
        obtain ⟨g5, H⟩ := H
        obtain ⟨g6, H⟩ := H
        refine c_ald rfl g5 g6 ?_
        show wk iv L h0 (d + 1) 247 84 [lr l0, ln, li l2] [vi (aI s (fR s l0 5) (fI (uI s l0 6 ((fI s l0 6) - 1)) l0 6))] (uI s l0 6 ((fI s l0 6) - 1)) (qv F)
        refine w_if_ge rfl (fun h => ?_) (fun h => ?_)
        · replace H := H.1 h
          refine w_aload_n rfl rfl ?_
          refine w_aload_n rfl rfl ?_
          refine c_getr rfl rfl rfl g1 ?_
          show wk iv L h0 (d + 1) 247 110 [lr l0, ln, li l2] [vr (fR s l0 5), vr l0] (uI s l0 6 ((fI s l0 6) - 1)) (qv F)
          refine w_aload_n rfl rfl ?_
          refine c_get rfl rfl rfl g1 ?_
          show wk iv L h0 (d + 1) 247 114 [lr l0, ln, li l2] [vi (fI (uI s l0 6 ((fI s l0 6) - 1)) l0 6), vr (fR s l0 5), vr l0] (uI s l0 6 ((fI s l0 6) - 1)) (qv F)
          refine c_ald rfl g5 g6 ?_
          show wk iv L h0 (d + 1) 247 115 [lr l0, ln, li l2] [vi (aI s (fR s l0 5) (fI (uI s l0 6 ((fI s l0 6) - 1)) l0 6)), vr l0] (uI s l0 6 ((fI s l0 6) - 1)) (qv F)
          refine c_virt (p := l0) (as := [vi (aI s (fR s l0 5) (fI (uI s l0 6 ((fI s l0 6) - 1)) l0 6))]) (r := []) rfl rfl rfl rfl rfl rfl g1 (wc_mono H (Nat.le_refl _) ?_)
          rintro _ s7 ⟨rfl, H⟩
          show wk iv L h0 (d + 1) 247 118 [lr l0, ln, li l2] [] s7 (qv F)
          obtain ⟨g8, H⟩ := H
          refine w_iinc rfl rfl rfl g8 ?_
          refine w_goto rfl ?_
          exact wp_ls (sl_s (sl_n (sl_s (sl_0)))) H
        · replace H := H.2 h
          refine w_aload_n rfl rfl ?_
          refine w_iconst (n := (-1)) rfl rfl ?_
          refine w_aload_n rfl rfl ?_
          refine c_getr rfl rfl rfl g1 ?_
          show wk iv L h0 (d + 1) 247 93 [lr l0, ln, li l2] [vr (fR s l0 5), vi (-1), vr l0] (uI s l0 6 ((fI s l0 6) - 1)) (qv F)
          refine w_aload_n rfl rfl ?_
          refine c_get rfl rfl rfl g1 ?_
          show wk iv L h0 (d + 1) 247 97 [lr l0, ln, li l2] [vi (fI (uI s l0 6 ((fI s l0 6) - 1)) l0 6), vr (fR s l0 5), vi (-1), vr l0] (uI s l0 6 ((fI s l0 6) - 1)) (qv F)
          refine c_ald rfl g5 g6 ?_
          show wk iv L h0 (d + 1) 247 98 [lr l0, ln, li l2] [vi (aI s (fR s l0 5) (fI (uI s l0 6 ((fI s l0 6) - 1)) l0 6)), vi (-1), vr l0] (uI s l0 6 ((fI s l0 6) - 1)) (qv F)
          obtain ⟨g9, H⟩ := H
          refine w_isub rfl g9 ?_
          refine c_virt (p := l0) (as := [vi ((-1) - (aI s (fR s l0 5) (fI (uI s l0 6 ((fI s l0 6) - 1)) l0 6)))]) (r := []) rfl rfl rfl rfl rfl rfl g1 (wc_mono H (Nat.le_refl _) ?_)
          rintro _ s10 ⟨rfl, H⟩
          show wk iv L h0 (d + 1) 247 102 [lr l0, ln, li l2] [] s10 (qv F)
          refine w_goto rfl ?_
          obtain ⟨g11, H⟩ := H
          refine w_iinc rfl rfl rfl g11 ?_
          refine w_goto rfl ?_
          exact wp_ls (sl_s (sl_n (sl_s (sl_0)))) H
      · replace H := H.2 h
        refine w_aload_n rfl rfl ?_
        refine w_aload_n rfl rfl ?_
        refine c_getr rfl rfl rfl g1 ?_
        show wk iv L h0 (d + 1) 247 64 [lr l0, ln, li l2] [vr (fR s l0 4), vr l0] (uI s l0 6 ((fI s l0 6) - 1)) (qv F)
        refine w_aload_n rfl rfl ?_
        refine c_get rfl rfl rfl g1 ?_
        show wk iv L h0 (d + 1) 247 68 [lr l0, ln, li l2] [vi (fI (uI s l0 6 ((fI s l0 6) - 1)) l0 6), vr (fR s l0 4), vr l0] (uI s l0 6 ((fI s l0 6) - 1)) (qv F)
        refine c_aald (t := 6) rfl ⟨g3, by decide, by decide⟩ g4 ?_
        show wk iv L h0 (d + 1) 247 69 [lr l0, ln, li l2] [vr (aR s (fR s l0 4) (fI (uI s l0 6 ((fI s l0 6) - 1)) l0 6)), vr l0] (uI s l0 6 ((fI s l0 6) - 1)) (qv F)
        refine c_virt (p := l0) (as := [vr (aR s (fR s l0 4) (fI (uI s l0 6 ((fI s l0 6) - 1)) l0 6))]) (r := []) rfl rfl rfl rfl rfl rfl g1 (wc_mono H (Nat.le_refl _) ?_)
        rintro _ s12 ⟨rfl, H⟩
        show wk iv L h0 (d + 1) 247 72 [lr l0, ln, li l2] [] s12 (qv F)
        refine w_goto rfl ?_
        obtain ⟨g13, H⟩ := H
        refine w_iinc rfl rfl rfl g13 ?_
        refine w_goto rfl ?_
        exact wp_ls (sl_s (sl_n (sl_s (sl_0)))) H

/-- HoleDesk$Writer.later(LHoleDesk$Value;I)V -/
theorem C248 {iv : List (Int × Int)} {L : Nat} {h0 : MH} {d : Nat} {s : SC} {a0 : Nat} {a1 : Nat} {a2 : Int} {F : SC → Prop} (H : (kl s a0 = 12) ∧ ((2005 ≤ fI s a0 6 → F s) ∧ (fI s a0 6 < 2005 → (kl s (fR s a0 4) = 106) ∧ (0 ≤ fI s a0 6 ∧ fI s a0 6 < le s (fR s a0 4)) ∧ (a1 = 2 ∨ kl s a1 = 10) ∧ (kl s (fR s a0 5) = 100) ∧ (0 ≤ fI s a0 6 ∧ fI s a0 6 < le s (fR s a0 5)) ∧ (-2147483648 ≤ (fI s a0 6) + 1 ∧ (fI s a0 6) + 1 ≤ 2147483647) ∧ F (uI (uA (uB s (fR s a0 4) (fI s a0 6) a1) (fR s a0 5) (fI s a0 6) a2) a0 6 ((fI s a0 6) + 1))))) : ck iv L h0 d 248 [vr a0, vr a1, vi a2] s (qv F) := by
  show wk iv L h0 d 248 0 [lr a0, lr a1, li a2] [] s (qv F)
  refine w_aload_n rfl rfl ?_
  obtain ⟨g1, H⟩ := H
  refine c_get rfl rfl rfl g1 ?_
  refine w_sipush (n := 2005) rfl rfl rfl ?_
  refine w_icmp_ge rfl (fun h => ?_) (fun h => ?_)
  · replace H := H.1 h
    exact w_ret rfl rfl ⟨rfl, H⟩
  · replace H := H.2 h
    refine w_aload_n rfl rfl ?_
    refine c_getr rfl rfl rfl g1 ?_
    refine w_aload_n rfl rfl ?_
    refine c_get rfl rfl rfl g1 ?_
    refine w_aload_n rfl rfl ?_
    obtain ⟨g2, H⟩ := H
    obtain ⟨g3, H⟩ := H
    obtain ⟨g4, H⟩ := H
    refine c_aast rfl rfl g2 g3 (by rcases g4 with e | e; exact Or.inl e; exact Or.inr ⟨e, by decide⟩) ?_
    refine w_aload_n rfl rfl ?_
    refine c_getr rfl rfl rfl g1 ?_
    show wk iv L h0 d 248 24 [lr a0, lr a1, li a2] [vr (fR s a0 5)] (uB s (fR s a0 4) (fI s a0 6) a1) (qv F)
    refine w_aload_n rfl rfl ?_
    refine c_get rfl rfl rfl g1 ?_
    show wk iv L h0 d 248 28 [lr a0, lr a1, li a2] [vi (fI s a0 6), vr (fR s a0 5)] (uB s (fR s a0 4) (fI s a0 6) a1) (qv F)
    refine w_iload_n rfl rfl ?_
    obtain ⟨g5, H⟩ := H
    obtain ⟨g6, H⟩ := H
    refine c_ast rfl g5 g6 ?_
    refine w_aload_n rfl rfl ?_
    refine w_dup rfl rfl ?_
    refine c_get rfl rfl rfl g1 ?_
    show wk iv L h0 d 248 35 [lr a0, lr a1, li a2] [vi (fI s a0 6), vr a0] (uA (uB s (fR s a0 4) (fI s a0 6) a1) (fR s a0 5) (fI s a0 6) a2) (qv F)
    refine w_iconst (n := 1) rfl rfl ?_
    obtain ⟨g7, H⟩ := H
    refine w_iadd rfl g7 ?_
    refine c_put rfl rfl rfl rfl g1 ?_
    exact w_ret rfl rfl ⟨rfl, H⟩

/-- HoleDesk$Writer.add(I)V -/
theorem C249 {iv : List (Int × Int)} {L : Nat} {h0 : MH} {d : Nat} {s : SC} {a0 : Nat} {a1 : Int} {F : SC → Prop} (H : (kl s a0 = 12) ∧ ((400 ≤ fI s a0 3 → F s) ∧ (fI s a0 3 < 400 → (-2147483648 ≤ (fI s a0 3) + 1 ∧ (fI s a0 3) + 1 ≤ 2147483647) ∧ (kl s (fR s a0 2) = 100) ∧ (0 ≤ fI s a0 3 ∧ fI s a0 3 < le s (fR s a0 2)) ∧ F (uA (uI s a0 3 ((fI s a0 3) + 1)) (fR s a0 2) (fI s a0 3) a1)))) : ck iv L h0 d 249 [vr a0, vi a1] s (qv F) := by
  show wk iv L h0 d 249 0 [lr a0, li a1] [] s (qv F)
  refine w_aload_n rfl rfl ?_
  obtain ⟨g1, H⟩ := H
  refine c_get rfl rfl rfl g1 ?_
  refine w_sipush (n := 400) rfl rfl rfl ?_
  refine w_icmp_ge rfl (fun h => ?_) (fun h => ?_)
  · replace H := H.1 h
    exact w_ret rfl rfl ⟨rfl, H⟩
  · replace H := H.2 h
    refine w_aload_n rfl rfl ?_
    refine c_getr rfl rfl rfl g1 ?_
    refine w_aload_n rfl rfl ?_
    refine w_dup rfl rfl ?_
    refine c_get rfl rfl rfl g1 ?_
    refine w_dup_x1 rfl rfl rfl ?_
    refine w_iconst (n := 1) rfl rfl ?_
    obtain ⟨g2, H⟩ := H
    refine w_iadd rfl g2 ?_
    refine c_put rfl rfl rfl rfl g1 ?_
    refine w_iload_n rfl rfl ?_
    obtain ⟨g3, H⟩ := H
    obtain ⟨g4, H⟩ := H
    refine c_ast rfl g3 g4 ?_
    exact w_ret rfl rfl ⟨rfl, H⟩

/-- HoleDesk$Writer.addText(Ljava/lang/String;)V -/
theorem C250 {iv : List (Int × Int)} {L : Nat} {h0 : MH} {d : Nat} {s : SC} {a0 : Nat} {a1 : Nat} {F : SC → Prop} (H : wk iv L h0 (d + 1) 250 2 [lr a0, lr a1, li 0] [] s (qv F)) : ck iv L h0 (d + 1) 250 [vr a0, vr a1] s (qv F) := by
  show wk iv L h0 (d + 1) 250 0 [lr a0, lr a1] [] s (qv F)
  refine w_iconst (n := 0) rfl rfl ?_
  refine w_istore_n rfl rfl ?_
  exact wp_ls (sl_s (sl_s (sl_s (sl_0)))) H

/-- HoleDesk$Writer.addText(Ljava/lang/String;)V at 2 -/
theorem C250_2 {iv : List (Int × Int)} {L : Nat} {h0 : MH} {d : Nat} {s : SC} {l0 : Nat} {l1 : Nat} {l2 : Int} {F : SC → Prop} (H : (8 ≤ l1 ∧ l1 < 8 + NS0) ∧ ((slen l1 ≤ l2 → F s) ∧ (l2 < slen l1 → (0 ≤ l2 ∧ l2 < slen l1) ∧ (kl s l0 = 12) ∧ ck iv L h0 d 249 [vr l0, vi (scat l1 l2)] s (qv fun s4 => (-2147483648 ≤ l2 + 1 ∧ l2 + 1 ≤ 2147483647) ∧ wk iv L h0 (d + 1) 250 2 [lr l0, lr l1, li (l2 + 1)] [] s4 (qv F))))) : wk iv L h0 (d + 1) 250 2 [lr l0, lr l1, li l2] [] s (qv F) := by
  refine w_iload_n rfl rfl ?_
  refine w_aload_n rfl rfl ?_
  obtain ⟨g1, H⟩ := H
  refine w_slen rfl g1 rfl ?_
  refine w_icmp_ge rfl (fun h => ?_) (fun h => ?_)
  · replace H := H.1 h
    exact w_ret rfl rfl ⟨rfl, H⟩
  · replace H := H.2 h
    refine w_aload_n rfl rfl ?_
    refine w_aload_n rfl rfl ?_
    refine w_iload_n rfl rfl ?_
    obtain ⟨g2, H⟩ := H
    refine w_sat rfl g1 g2 rfl ?_
    obtain ⟨g3, H⟩ := H
    refine c_virt (p := l0) (as := [vi (scat l1 l2)]) (r := []) rfl rfl rfl rfl rfl rfl g3 (wc_mono H (Nat.le_refl _) ?_)
    rintro _ s4 ⟨rfl, H⟩
    show wk iv L h0 (d + 1) 250 19 [lr l0, lr l1, li l2] [] s4 (qv F)
    obtain ⟨g5, H⟩ := H
    refine w_iinc rfl rfl rfl g5 ?_
    refine w_goto rfl ?_
    exact wp_ls (sl_s (sl_s (sl_s (sl_0)))) H

/-- HoleDesk$Writer.addDigits(I)V -/
theorem C251 {iv : List (Int × Int)} {L : Nat} {h0 : MH} {d : Nat} {s : SC} {a0 : Nat} {a1 : Int} {F : SC → Prop} (H : (inL a1) ∧ (inL 0) ∧ ((0 ≤ lcp a1 0 → wk iv L h0 (d + 1) 251 23 [lr a0, ln, ll a1, ln, ll 1000000000] [] s (qv F)) ∧ (lcp a1 0 < 0 → (kl s a0 = 12) ∧ ck iv L h0 d 249 [vr a0, vi 45] s (qv fun s4 => wk iv L h0 (d + 1) 251 23 [lr a0, ln, ll (-a1), ln, ll 1000000000] [] s4 (qv F))))) : ck iv L h0 (d + 1) 251 [vr a0, vi a1] s (qv F) := by
  show wk iv L h0 (d + 1) 251 0 [lr a0, li a1] [] s (qv F)
  refine w_iload_n rfl rfl ?_
  refine w_i2l rfl ?_
  refine w_lstore_n rfl rfl ?_
  refine w_lload_n rfl rfl ?_
  refine w_lconst (z := 0) rfl rfl ?_
  obtain ⟨g1, H⟩ := H
  obtain ⟨g2, H⟩ := H
  refine w_lcmp rfl g1 g2 ?_
  refine w_if_ge rfl (fun h => ?_) (fun h => ?_)
  · replace H := H.1 h
    refine w_ldc2 (z := 1000000000) rfl rfl ?_
    refine w_lstore rfl rfl ?_
    exact wp_ls (sl_s (sl_n (sl_s (sl_n (sl_s (sl_0)))))) H
  · replace H := H.2 h
    refine w_aload_n rfl rfl ?_
    refine w_bipush (n := 45) rfl rfl rfl ?_
    obtain ⟨g3, H⟩ := H
    refine c_virt (p := a0) (as := [vi 45]) (r := []) rfl rfl rfl rfl rfl rfl g3 (wc_mono H (Nat.le_refl _) ?_)
    rintro _ s4 ⟨rfl, H⟩
    show wk iv L h0 (d + 1) 251 15 [lr a0, li a1, ll a1, ln] [] s4 (qv F)
    refine w_lload_n rfl rfl ?_
    refine w_lneg rfl ?_
    refine w_lstore_n rfl rfl ?_
    refine w_ldc2 (z := 1000000000) rfl rfl ?_
    refine w_lstore rfl rfl ?_
    exact wp_ls (sl_s (sl_n (sl_s (sl_n (sl_s (sl_0)))))) H

/-- HoleDesk$Writer.addDigits(I)V at 23 -/
theorem C251_23 {iv : List (Int × Int)} {L : Nat} {h0 : MH} {d : Nat} {s : SC} {l0 : Nat} {l2 : Int} {l4 : Int} {F : SC → Prop} (H : (inL l4) ∧ (inL 0) ∧ ((lcp l4 0 ≤ 0 → F s) ∧ (0 < lcp l4 0 → (inL 1) ∧ ((lcp l4 1 = 0 → (inL l2) ∧ (l4 ≠ 0) ∧ (inL (l2.tdiv l4)) ∧ (inL 10) ∧ (inL ((l2.tdiv l4).tdiv 10)) ∧ (kl s l0 = 12) ∧ ck iv L h0 d 249 [vr l0, vi (w32 (48 + ((l2.tdiv l4) - (l2.tdiv l4).tdiv 10 * 10)))] s (qv fun s10 => (inL (l4.tdiv 10)) ∧ wk iv L h0 (d + 1) 251 23 [lr l0, ln, ll l2, ln, ll (l4.tdiv 10)] [] s10 (qv F))) ∧ (lcp l4 1 ≠ 0 → (inL l2) ∧ ((lcp l2 l4 < 0 → (inL 10) ∧ (inL (l4.tdiv 10)) ∧ wk iv L h0 (d + 1) 251 23 [lr l0, ln, ll l2, ln, ll (l4.tdiv 10)] [] s (qv F)) ∧ (0 ≤ lcp l2 l4 → (l4 ≠ 0) ∧ (inL (l2.tdiv l4)) ∧ (inL 10) ∧ (inL ((l2.tdiv l4).tdiv 10)) ∧ (kl s l0 = 12) ∧ ck iv L h0 d 249 [vr l0, vi (w32 (48 + ((l2.tdiv l4) - (l2.tdiv l4).tdiv 10 * 10)))] s (qv fun s20 => (inL (l4.tdiv 10)) ∧ wk iv L h0 (d + 1) 251 23 [lr l0, ln, ll l2, ln, ll (l4.tdiv 10)] [] s20 (qv F))))))))) : wk iv L h0 (d + 1) 251 23 [lr l0, ln, ll l2, ln, ll l4] [] s (qv F) := by
  refine w_lload rfl rfl ?_
  refine w_lconst (z := 0) rfl rfl ?_
  obtain ⟨g1, H⟩ := H
  obtain ⟨g2, H⟩ := H
  refine w_lcmp rfl g1 g2 ?_
  refine w_if_le rfl (fun h => ?_) (fun h => ?_)
  · replace H := H.1 h
    exact w_ret rfl rfl ⟨rfl, H⟩
  · replace H := H.2 h
    refine w_lload rfl rfl ?_
    refine w_lconst (z := 1) rfl rfl ?_
    obtain ⟨g3, H⟩ := H
    refine w_lcmp rfl g1 g3 ?_
    refine w_if_eq rfl (fun h => ?_) (fun h => ?_)
    · replace H := H.1 h
      refine w_aload_n rfl rfl ?_
      refine w_ldc2 (z := 48) rfl rfl ?_
      refine w_lload_n rfl rfl ?_
      refine w_lload rfl rfl ?_
      obtain ⟨g4, H⟩ := H
      obtain ⟨g5, H⟩ := H
      obtain ⟨g6, H⟩ := H
      refine w_ldiv rfl g4 g1 g5 g6 ?_
      refine w_ldc2 (z := 10) rfl rfl ?_
      obtain ⟨g7, H⟩ := H
      obtain ⟨g8, H⟩ := H
      refine w_lrem rfl g6 g7 (by decide) g8 ?_
      refine w_ladd rfl ?_
      refine w_l2i rfl ?_
      obtain ⟨g9, H⟩ := H
      refine c_virt (p := l0) (as := [vi (w32 (48 + ((l2.tdiv l4) - (l2.tdiv l4).tdiv 10 * 10)))]) (r := []) rfl rfl rfl rfl rfl rfl g9 (wc_mono H (Nat.le_refl _) ?_)
      rintro _ s10 ⟨rfl, H⟩
      show wk iv L h0 (d + 1) 251 61 [lr l0, ln, ll l2, ln, ll l4] [] s10 (qv F)
      refine w_lload rfl rfl ?_
      refine w_ldc2 (z := 10) rfl rfl ?_
      obtain ⟨g11, H⟩ := H
      refine w_ldiv rfl g1 g7 (by decide) g11 ?_
      refine w_lstore rfl rfl ?_
      refine w_goto rfl ?_
      exact wp_ls (sl_s (sl_n (sl_s (sl_n (sl_s (sl_0)))))) H
    · replace H := H.2 h
      refine w_lload_n rfl rfl ?_
      refine w_lload rfl rfl ?_
      obtain ⟨g12, H⟩ := H
      refine w_lcmp rfl g12 g1 ?_
      refine w_if_lt rfl (fun h => ?_) (fun h => ?_)
      · replace H := H.1 h
        refine w_lload rfl rfl ?_
        refine w_ldc2 (z := 10) rfl rfl ?_
        obtain ⟨g13, H⟩ := H
        obtain ⟨g14, H⟩ := H
        refine w_ldiv rfl g1 g13 (by decide) g14 ?_
        refine w_lstore rfl rfl ?_
        refine w_goto rfl ?_
        exact wp_ls (sl_s (sl_n (sl_s (sl_n (sl_s (sl_0)))))) H
      · replace H := H.2 h
        refine w_aload_n rfl rfl ?_
        refine w_ldc2 (z := 48) rfl rfl ?_
        refine w_lload_n rfl rfl ?_
        refine w_lload rfl rfl ?_
        obtain ⟨g15, H⟩ := H
        obtain ⟨g16, H⟩ := H
        refine w_ldiv rfl g12 g1 g15 g16 ?_
        refine w_ldc2 (z := 10) rfl rfl ?_
        obtain ⟨g17, H⟩ := H
        obtain ⟨g18, H⟩ := H
        refine w_lrem rfl g16 g17 (by decide) g18 ?_
        refine w_ladd rfl ?_
        refine w_l2i rfl ?_
        obtain ⟨g19, H⟩ := H
        refine c_virt (p := l0) (as := [vi (w32 (48 + ((l2.tdiv l4) - (l2.tdiv l4).tdiv 10 * 10)))]) (r := []) rfl rfl rfl rfl rfl rfl g19 (wc_mono H (Nat.le_refl _) ?_)
        rintro _ s20 ⟨rfl, H⟩
        show wk iv L h0 (d + 1) 251 61 [lr l0, ln, ll l2, ln, ll l4] [] s20 (qv F)
        refine w_lload rfl rfl ?_
        refine w_ldc2 (z := 10) rfl rfl ?_
        obtain ⟨g21, H⟩ := H
        refine w_ldiv rfl g1 g17 (by decide) g21 ?_
        refine w_lstore rfl rfl ?_
        refine w_goto rfl ?_
        exact wp_ls (sl_s (sl_n (sl_s (sl_n (sl_s (sl_0)))))) H

/-- HoleDesk$Writer.addOne(LHoleDesk$Value;)V -/
theorem C252 {iv : List (Int × Int)} {L : Nat} {h0 : MH} {d : Nat} {s : SC} {a0 : Nat} {a1 : Nat} {F : SC → Prop} (H : (kl s a1 = 10) ∧ ((fI s a1 0 = 0 → (kl s a0 = 12) ∧ ck iv L h0 d 251 [vr a0, vi (fI s a1 1)] s (qv fun s3 => F s3)) ∧ (fI s a1 0 = 1 → ((fI s a1 1 ≠ 1 → (kl s a0 = 12) ∧ ck iv L h0 d 250 [vr a0, vr 10] s (qv fun s5 => F s5)) ∧ (fI s a1 1 = 1 → (kl s a0 = 12) ∧ ck iv L h0 d 250 [vr a0, vr 9] s (qv fun s7 => F s7)))) ∧ (fI s a1 0 = 2 → (kl s a0 = 12) ∧ ck iv L h0 d 249 [vr a0, vi 100] s (qv fun s9 => (kl s9 a1 = 10) ∧ (kl s9 (fR s9 a1 2) = 5) ∧ (kl s9 a0 = 12) ∧ ck iv L h0 d 251 [vr a0, vi (fI s9 (fR s9 a1 2) 0)] s9 (qv fun s13 => F s13))) ∧ (fI s a1 0 = 3 → (kl s a0 = 12) ∧ ck iv L h0 d 249 [vr a0, vi 91] s (qv fun s15 => (kl s15 a0 = 12) ∧ ck iv L h0 d 248 [vr a0, vr 2, vi 93] s15 (qv fun s17 => (kl s17 a1 = 10) ∧ (kl s17 a0 = 12) ∧ ck iv L h0 d 248 [vr a0, vr (fR s17 a1 4), vi 0] s17 (qv fun s20 => (kl s20 a0 = 12) ∧ ck iv L h0 d 248 [vr a0, vr 2, vi 32] s20 (qv fun s22 => (kl s22 a1 = 10) ∧ (kl s22 a0 = 12) ∧ ck iv L h0 d 248 [vr a0, vr (fR s22 a1 3), vi 0] s22 (qv fun s25 => F s25)))))) ∧ (fI s a1 0 = 4 → (kl s a0 = 12) ∧ ((400 ≤ fI s a0 3 → ck iv L h0 d 249 [vr a0, vi 63] s (qv fun s27 => (kl s27 a1 = 10) ∧ (kl s27 (fR s27 a1 2) = 5) ∧ (kl s27 a0 = 12) ∧ ck iv L h0 d 251 [vr a0, vi (fI s27 (fR s27 a1 2) 0)] s27 (qv fun s31 => F s31))) ∧ (fI s a0 3 < 400 → (-2147483648 ≤ (fI s a0 1) + 1 ∧ (fI s a0 1) + 1 ≤ 2147483647) ∧ (kl s (fR s a0 0) = 106) ∧ (0 ≤ fI s a0 1 ∧ fI s a0 1 < le s (fR s a0 0)) ∧ (a1 = 2 ∨ kl s a1 = 10) ∧ ck iv L h0 d 249 [vr a0, vi 63] (uB (uI s a0 1 ((fI s a0 1) + 1)) (fR s a0 0) (fI s a0 1) a1) (qv fun s36 => (kl s36 a1 = 10) ∧ (kl s36 (fR s36 a1 2) = 5) ∧ (kl s36 a0 = 12) ∧ ck iv L h0 d 251 [vr a0, vi (fI s36 (fR s36 a1 2) 0)] s36 (qv fun s40 => F s40))))) ∧ (fI s a1 0 = 5 → (kl s a0 = 12) ∧ ck iv L h0 d 249 [vr a0, vi 33] s (qv fun s42 => (kl s42 a1 = 10) ∧ (-2147483648 ≤ 97 + (fI s42 a1 1) ∧ 97 + (fI s42 a1 1) ≤ 2147483647) ∧ (kl s42 a0 = 12) ∧ ck iv L h0 d 249 [vr a0, vi (97 + (fI s42 a1 1))] s42 (qv fun s46 => F s46))) ∧ (fI s a1 0 = 6 → (kl s a0 = 12) ∧ ck iv L h0 d 249 [vr a0, vi 123] s (qv fun s48 => (kl s48 a0 = 12) ∧ ck iv L h0 d 248 [vr a0, vr 2, vi 125] s48 (qv fun s50 => (kl s50 a1 = 10) ∧ (kl s50 a0 = 12) ∧ ck iv L h0 d 248 [vr a0, vr (fR s50 a1 3), vi 0] s50 (qv fun s53 => F s53)))) ∧ (fI s a1 0 < 0 ∨ 6 < fI s a1 0 → (kl s a0 = 12) ∧ ck iv L h0 d 253 [vr a0, vr a1] s (qv fun s55 => F s55)))) : ck iv L h0 (d + 1) 252 [vr a0, vr a1] s (qv F) := by
  show wk iv L h0 (d + 1) 252 0 [lr a0, lr a1] [] s (qv F)
  refine w_aload_n rfl rfl ?_
  obtain ⟨g1, H⟩ := H
  refine c_get rfl rfl rfl g1 ?_
  have J48 : (fI s a1 0 = 0) → wk iv L h0 (d + 1) 252 48 [lr a0, lr a1] [] s (qv F) := fun h => by
    replace H := H.1 h
    refine w_aload_n rfl rfl ?_
    refine w_aload_n rfl rfl ?_
    refine c_get rfl rfl rfl g1 ?_
    obtain ⟨g2, H⟩ := H
    refine c_virt (p := a0) (as := [vi (fI s a1 1)]) (r := []) rfl rfl rfl rfl rfl rfl g2 (wc_mono H (Nat.le_refl _) ?_)
    rintro _ s3 ⟨rfl, H⟩
    show wk iv L h0 (d + 1) 252 56 [lr a0, lr a1] [] s3 (qv F)
    refine w_goto rfl ?_
    exact w_ret rfl rfl ⟨rfl, H⟩
  have J59 : (fI s a1 0 = 1) → wk iv L h0 (d + 1) 252 59 [lr a0, lr a1] [] s (qv F) := fun h => by
    replace H := H.2.1 h
    refine w_aload_n rfl rfl ?_
    refine w_aload_n rfl rfl ?_
    refine c_get rfl rfl rfl g1 ?_
    refine w_iconst (n := 1) rfl rfl ?_
    refine w_icmp_ne rfl (fun h => ?_) (fun h => ?_)
    · replace H := H.1 h
      refine w_ldcs (x := 10) rfl rfl (by decide) ?_
      obtain ⟨g4, H⟩ := H
      refine c_virt (p := a0) (as := [vr 10]) (r := []) rfl rfl rfl rfl rfl rfl g4 (wc_mono H (Nat.le_refl _) ?_)
      rintro _ s5 ⟨rfl, H⟩
      show wk iv L h0 (d + 1) 252 78 [lr a0, lr a1] [] s5 (qv F)
      refine w_goto rfl ?_
      exact w_ret rfl rfl ⟨rfl, H⟩
    · replace H := H.2 h
      refine w_ldcs (x := 9) rfl rfl (by decide) ?_
      refine w_goto rfl ?_
      obtain ⟨g6, H⟩ := H
      refine c_virt (p := a0) (as := [vr 9]) (r := []) rfl rfl rfl rfl rfl rfl g6 (wc_mono H (Nat.le_refl _) ?_)
      rintro _ s7 ⟨rfl, H⟩
      show wk iv L h0 (d + 1) 252 78 [lr a0, lr a1] [] s7 (qv F)
      refine w_goto rfl ?_
      exact w_ret rfl rfl ⟨rfl, H⟩
  have J81 : (fI s a1 0 = 2) → wk iv L h0 (d + 1) 252 81 [lr a0, lr a1] [] s (qv F) := fun h => by
    replace H := H.2.2.1 h
    refine w_aload_n rfl rfl ?_
    refine w_bipush (n := 100) rfl rfl rfl ?_
    obtain ⟨g8, H⟩ := H
    refine c_virt (p := a0) (as := [vi 100]) (r := []) rfl rfl rfl rfl rfl rfl g8 (wc_mono H (Nat.le_refl _) ?_)
    rintro _ s9 ⟨rfl, H⟩
    show wk iv L h0 (d + 1) 252 87 [lr a0, lr a1] [] s9 (qv F)
    refine w_aload_n rfl rfl ?_
    refine w_aload_n rfl rfl ?_
    obtain ⟨g10, H⟩ := H
    refine c_getr rfl rfl rfl g10 ?_
    obtain ⟨g11, H⟩ := H
    refine c_get rfl rfl rfl g11 ?_
    obtain ⟨g12, H⟩ := H
    refine c_virt (p := a0) (as := [vi (fI s9 (fR s9 a1 2) 0)]) (r := []) rfl rfl rfl rfl rfl rfl g12 (wc_mono H (Nat.le_refl _) ?_)
    rintro _ s13 ⟨rfl, H⟩
    show wk iv L h0 (d + 1) 252 98 [lr a0, lr a1] [] s13 (qv F)
    refine w_goto rfl ?_
    exact w_ret rfl rfl ⟨rfl, H⟩
  have J101 : (fI s a1 0 = 3) → wk iv L h0 (d + 1) 252 101 [lr a0, lr a1] [] s (qv F) := fun h => by
    replace H := H.2.2.2.1 h
    refine w_aload_n rfl rfl ?_
    refine w_bipush (n := 91) rfl rfl rfl ?_
    obtain ⟨g14, H⟩ := H
    refine c_virt (p := a0) (as := [vi 91]) (r := []) rfl rfl rfl rfl rfl rfl g14 (wc_mono H (Nat.le_refl _) ?_)
    rintro _ s15 ⟨rfl, H⟩
    show wk iv L h0 (d + 1) 252 107 [lr a0, lr a1] [] s15 (qv F)
    refine w_aload_n rfl rfl ?_
    refine w_null rfl ?_
    refine w_bipush (n := 93) rfl rfl rfl ?_
    obtain ⟨g16, H⟩ := H
    refine c_virt (p := a0) (as := [vr 2, vi 93]) (r := []) rfl rfl rfl rfl rfl rfl g16 (wc_mono H (Nat.le_refl _) ?_)
    rintro _ s17 ⟨rfl, H⟩
    show wk iv L h0 (d + 1) 252 114 [lr a0, lr a1] [] s17 (qv F)
    refine w_aload_n rfl rfl ?_
    refine w_aload_n rfl rfl ?_
    obtain ⟨g18, H⟩ := H
    refine c_getr rfl rfl rfl g18 ?_
    refine w_iconst (n := 0) rfl rfl ?_
    obtain ⟨g19, H⟩ := H
    refine c_virt (p := a0) (as := [vr (fR s17 a1 4), vi 0]) (r := []) rfl rfl rfl rfl rfl rfl g19 (wc_mono H (Nat.le_refl _) ?_)
    rintro _ s20 ⟨rfl, H⟩
    show wk iv L h0 (d + 1) 252 123 [lr a0, lr a1] [] s20 (qv F)
    refine w_aload_n rfl rfl ?_
    refine w_null rfl ?_
    refine w_bipush (n := 32) rfl rfl rfl ?_
    obtain ⟨g21, H⟩ := H
    refine c_virt (p := a0) (as := [vr 2, vi 32]) (r := []) rfl rfl rfl rfl rfl rfl g21 (wc_mono H (Nat.le_refl _) ?_)
    rintro _ s22 ⟨rfl, H⟩
    show wk iv L h0 (d + 1) 252 130 [lr a0, lr a1] [] s22 (qv F)
    refine w_aload_n rfl rfl ?_
    refine w_aload_n rfl rfl ?_
    obtain ⟨g23, H⟩ := H
    refine c_getr rfl rfl rfl g23 ?_
    refine w_iconst (n := 0) rfl rfl ?_
    obtain ⟨g24, H⟩ := H
    refine c_virt (p := a0) (as := [vr (fR s22 a1 3), vi 0]) (r := []) rfl rfl rfl rfl rfl rfl g24 (wc_mono H (Nat.le_refl _) ?_)
    rintro _ s25 ⟨rfl, H⟩
    show wk iv L h0 (d + 1) 252 139 [lr a0, lr a1] [] s25 (qv F)
    refine w_goto rfl ?_
    exact w_ret rfl rfl ⟨rfl, H⟩
  have J142 : (fI s a1 0 = 4) → wk iv L h0 (d + 1) 252 142 [lr a0, lr a1] [] s (qv F) := fun h => by
    replace H := H.2.2.2.2.1 h
    refine w_aload_n rfl rfl ?_
    obtain ⟨g26, H⟩ := H
    refine c_get rfl rfl rfl g26 ?_
    refine w_sipush (n := 400) rfl rfl rfl ?_
    refine w_icmp_ge rfl (fun h => ?_) (fun h => ?_)
    · replace H := H.1 h
      refine w_aload_n rfl rfl ?_
      refine w_bipush (n := 63) rfl rfl rfl ?_
      refine c_virt (p := a0) (as := [vi 63]) (r := []) rfl rfl rfl rfl rfl rfl g26 (wc_mono H (Nat.le_refl _) ?_)
      rintro _ s27 ⟨rfl, H⟩
      show wk iv L h0 (d + 1) 252 175 [lr a0, lr a1] [] s27 (qv F)
      refine w_aload_n rfl rfl ?_
      refine w_aload_n rfl rfl ?_
      obtain ⟨g28, H⟩ := H
      refine c_getr rfl rfl rfl g28 ?_
      obtain ⟨g29, H⟩ := H
      refine c_get rfl rfl rfl g29 ?_
      obtain ⟨g30, H⟩ := H
      refine c_virt (p := a0) (as := [vi (fI s27 (fR s27 a1 2) 0)]) (r := []) rfl rfl rfl rfl rfl rfl g30 (wc_mono H (Nat.le_refl _) ?_)
      rintro _ s31 ⟨rfl, H⟩
      show wk iv L h0 (d + 1) 252 186 [lr a0, lr a1] [] s31 (qv F)
      refine w_goto rfl ?_
      exact w_ret rfl rfl ⟨rfl, H⟩
    · replace H := H.2 h
      refine w_aload_n rfl rfl ?_
      refine c_getr rfl rfl rfl g26 ?_
      refine w_aload_n rfl rfl ?_
      refine w_dup rfl rfl ?_
      refine c_get rfl rfl rfl g26 ?_
      refine w_dup_x1 rfl rfl rfl ?_
      refine w_iconst (n := 1) rfl rfl ?_
      obtain ⟨g32, H⟩ := H
      refine w_iadd rfl g32 ?_
      refine c_put rfl rfl rfl rfl g26 ?_
      refine w_aload_n rfl rfl ?_
      obtain ⟨g33, H⟩ := H
      obtain ⟨g34, H⟩ := H
      obtain ⟨g35, H⟩ := H
      refine c_aast rfl rfl g33 g34 (by rcases g35 with e | e; exact Or.inl e; exact Or.inr ⟨e, by decide⟩) ?_
      refine w_aload_n rfl rfl ?_
      refine w_bipush (n := 63) rfl rfl rfl ?_
      refine c_virt (p := a0) (as := [vi 63]) (r := []) rfl rfl rfl rfl rfl rfl g26 (wc_mono H (Nat.le_refl _) ?_)
      rintro _ s36 ⟨rfl, H⟩
      show wk iv L h0 (d + 1) 252 175 [lr a0, lr a1] [] s36 (qv F)
      refine w_aload_n rfl rfl ?_
      refine w_aload_n rfl rfl ?_
      obtain ⟨g37, H⟩ := H
      refine c_getr rfl rfl rfl g37 ?_
      obtain ⟨g38, H⟩ := H
      refine c_get rfl rfl rfl g38 ?_
      obtain ⟨g39, H⟩ := H
      refine c_virt (p := a0) (as := [vi (fI s36 (fR s36 a1 2) 0)]) (r := []) rfl rfl rfl rfl rfl rfl g39 (wc_mono H (Nat.le_refl _) ?_)
      rintro _ s40 ⟨rfl, H⟩
      show wk iv L h0 (d + 1) 252 186 [lr a0, lr a1] [] s40 (qv F)
      refine w_goto rfl ?_
      exact w_ret rfl rfl ⟨rfl, H⟩
  have J189 : (fI s a1 0 = 5) → wk iv L h0 (d + 1) 252 189 [lr a0, lr a1] [] s (qv F) := fun h => by
    replace H := H.2.2.2.2.2.1 h
    refine w_aload_n rfl rfl ?_
    refine w_bipush (n := 33) rfl rfl rfl ?_
    obtain ⟨g41, H⟩ := H
    refine c_virt (p := a0) (as := [vi 33]) (r := []) rfl rfl rfl rfl rfl rfl g41 (wc_mono H (Nat.le_refl _) ?_)
    rintro _ s42 ⟨rfl, H⟩
    show wk iv L h0 (d + 1) 252 195 [lr a0, lr a1] [] s42 (qv F)
    refine w_aload_n rfl rfl ?_
    refine w_bipush (n := 97) rfl rfl rfl ?_
    refine w_aload_n rfl rfl ?_
    obtain ⟨g43, H⟩ := H
    refine c_get rfl rfl rfl g43 ?_
    obtain ⟨g44, H⟩ := H
    refine w_iadd rfl g44 ?_
    obtain ⟨g45, H⟩ := H
    refine c_virt (p := a0) (as := [vi (97 + (fI s42 a1 1))]) (r := []) rfl rfl rfl rfl rfl rfl g45 (wc_mono H (Nat.le_refl _) ?_)
    rintro _ s46 ⟨rfl, H⟩
    show wk iv L h0 (d + 1) 252 206 [lr a0, lr a1] [] s46 (qv F)
    refine w_goto rfl ?_
    exact w_ret rfl rfl ⟨rfl, H⟩
  have J209 : (fI s a1 0 = 6) → wk iv L h0 (d + 1) 252 209 [lr a0, lr a1] [] s (qv F) := fun h => by
    replace H := H.2.2.2.2.2.2.1 h
    refine w_aload_n rfl rfl ?_
    refine w_bipush (n := 123) rfl rfl rfl ?_
    obtain ⟨g47, H⟩ := H
    refine c_virt (p := a0) (as := [vi 123]) (r := []) rfl rfl rfl rfl rfl rfl g47 (wc_mono H (Nat.le_refl _) ?_)
    rintro _ s48 ⟨rfl, H⟩
    show wk iv L h0 (d + 1) 252 215 [lr a0, lr a1] [] s48 (qv F)
    refine w_aload_n rfl rfl ?_
    refine w_null rfl ?_
    refine w_bipush (n := 125) rfl rfl rfl ?_
    obtain ⟨g49, H⟩ := H
    refine c_virt (p := a0) (as := [vr 2, vi 125]) (r := []) rfl rfl rfl rfl rfl rfl g49 (wc_mono H (Nat.le_refl _) ?_)
    rintro _ s50 ⟨rfl, H⟩
    show wk iv L h0 (d + 1) 252 222 [lr a0, lr a1] [] s50 (qv F)
    refine w_aload_n rfl rfl ?_
    refine w_aload_n rfl rfl ?_
    obtain ⟨g51, H⟩ := H
    refine c_getr rfl rfl rfl g51 ?_
    refine w_iconst (n := 0) rfl rfl ?_
    obtain ⟨g52, H⟩ := H
    refine c_virt (p := a0) (as := [vr (fR s50 a1 3), vi 0]) (r := []) rfl rfl rfl rfl rfl rfl g52 (wc_mono H (Nat.le_refl _) ?_)
    rintro _ s53 ⟨rfl, H⟩
    show wk iv L h0 (d + 1) 252 231 [lr a0, lr a1] [] s53 (qv F)
    refine w_goto rfl ?_
    exact w_ret rfl rfl ⟨rfl, H⟩
  have J234 : (fI s a1 0 < 0 ∨ 6 < fI s a1 0) → wk iv L h0 (d + 1) 252 234 [lr a0, lr a1] [] s (qv F) := fun h => by
    replace H := H.2.2.2.2.2.2.2 h
    refine w_aload_n rfl rfl ?_
    refine w_aload_n rfl rfl ?_
    obtain ⟨g54, H⟩ := H
    refine c_virt (p := a0) (as := [vr a1]) (r := []) rfl rfl rfl rfl rfl rfl g54 (wc_mono H (Nat.le_refl _) ?_)
    rintro _ s55 ⟨rfl, H⟩
    show wk iv L h0 (d + 1) 252 239 [lr a0, lr a1] [] s55 (qv F)
    exact w_ret rfl rfl ⟨rfl, H⟩
  refine w_tsw (td := 234) (ts := [48, 59, 81, 101, 142, 189, 209]) rfl rfl rfl rfl rfl rfl (fun h => J234 (by omega)) ?_
  exact swA_c (fun h => J48 (by omega)) (swA_c (fun h => J59 (by omega)) (swA_c (fun h => J81 (by omega)) (swA_c (fun h => J101 (by omega)) (swA_c (fun h => J142 (by omega)) (swA_c (fun h => J189 (by omega)) (swA_c (fun h => J209 (by omega)) (swA_n)))))))

/-- HoleDesk$Writer.addAct(LHoleDesk$Value;)V -/
theorem C253 {iv : List (Int × Int)} {L : Nat} {h0 : MH} {d : Nat} {s : SC} {a0 : Nat} {a1 : Nat} {F : SC → Prop} (H : (kl s a0 = 12) ∧ ck iv L h0 d 249 [vr a0, vi 40] s (qv fun s2 => (kl s2 a1 = 10) ∧ (kl s2 (fR s2 a1 2) = 5) ∧ ck iv L h0 d 254 [vi (fI s2 (fR s2 a1 2) 1)] s2 (qa fun r6 s5 => (kl s5 a0 = 12) ∧ ck iv L h0 d 250 [vr a0, vr r6] s5 (qv fun s8 => (kl s8 a0 = 12) ∧ ck iv L h0 d 248 [vr a0, vr 2, vi 41] s8 (qv fun s10 => (kl s10 a1 = 10) ∧ (kl s10 (fR s10 a1 2) = 5) ∧ ((fI s10 (fR s10 a1 2) 1 ≠ 11 → ((fR s10 a1 4 = 2 → (kl s10 a0 = 12) ∧ ck iv L h0 d 248 [vr a0, vr (fR s10 a1 3), vi 0] s10 (qv fun s14 => (kl s14 a0 = 12) ∧ ck iv L h0 d 248 [vr a0, vr 2, vi 32] s14 (qv fun s16 => F s16))) ∧ (fR s10 a1 4 ≠ 2 → (kl s10 a0 = 12) ∧ ck iv L h0 d 248 [vr a0, vr (fR s10 a1 4), vi 0] s10 (qv fun s18 => (kl s18 a0 = 12) ∧ ck iv L h0 d 248 [vr a0, vr 2, vi 32] s18 (qv fun s20 => (kl s20 a1 = 10) ∧ (kl s20 a0 = 12) ∧ ck iv L h0 d 248 [vr a0, vr (fR s20 a1 3), vi 0] s20 (qv fun s23 => (kl s23 a0 = 12) ∧ ck iv L h0 d 248 [vr a0, vr 2, vi 32] s23 (qv fun s25 => F s25))))))) ∧ (fI s10 (fR s10 a1 2) 1 = 11 → (-2147483648 ≤ (-1) - (fI s10 (fR s10 a1 2) 0) ∧ (-1) - (fI s10 (fR s10 a1 2) 0) ≤ 2147483647) ∧ (kl s10 a0 = 12) ∧ ck iv L h0 d 248 [vr a0, vr 2, vi ((-1) - (fI s10 (fR s10 a1 2) 0))] s10 (qv fun s28 => (kl s28 a0 = 12) ∧ ck iv L h0 d 248 [vr a0, vr 2, vi 32] s28 (qv fun s30 => (kl s30 a1 = 10) ∧ ((fR s30 a1 4 = 2 → (kl s30 a0 = 12) ∧ ck iv L h0 d 248 [vr a0, vr (fR s30 a1 3), vi 0] s30 (qv fun s33 => (kl s33 a0 = 12) ∧ ck iv L h0 d 248 [vr a0, vr 2, vi 32] s33 (qv fun s35 => F s35))) ∧ (fR s30 a1 4 ≠ 2 → (kl s30 a0 = 12) ∧ ck iv L h0 d 248 [vr a0, vr (fR s30 a1 4), vi 0] s30 (qv fun s37 => (kl s37 a0 = 12) ∧ ck iv L h0 d 248 [vr a0, vr 2, vi 32] s37 (qv fun s39 => (kl s39 a1 = 10) ∧ (kl s39 a0 = 12) ∧ ck iv L h0 d 248 [vr a0, vr (fR s39 a1 3), vi 0] s39 (qv fun s42 => (kl s42 a0 = 12) ∧ ck iv L h0 d 248 [vr a0, vr 2, vi 32] s42 (qv fun s44 => F s44))))))))))))))) : ck iv L h0 (d + 1) 253 [vr a0, vr a1] s (qv F) := by
  show wk iv L h0 (d + 1) 253 0 [lr a0, lr a1] [] s (qv F)
  refine w_aload_n rfl rfl ?_
  refine w_bipush (n := 40) rfl rfl rfl ?_
  obtain ⟨g1, H⟩ := H
  refine c_virt (p := a0) (as := [vi 40]) (r := []) rfl rfl rfl rfl rfl rfl g1 (wc_mono H (Nat.le_refl _) ?_)
  rintro _ s2 ⟨rfl, H⟩
  show wk iv L h0 (d + 1) 253 6 [lr a0, lr a1] [] s2 (qv F)
  refine w_aload_n rfl rfl ?_
  refine w_aload_n rfl rfl ?_
  obtain ⟨g3, H⟩ := H
  refine c_getr rfl rfl rfl g3 ?_
  obtain ⟨g4, H⟩ := H
  refine c_get rfl rfl rfl g4 ?_
  refine w_static (as := [vi (fI s2 (fR s2 a1 2) 1)]) (r := [vr a0]) rfl rfl rfl rfl rfl (wc_mono H (Nat.le_refl _) ?_)
  rintro _ s5 ⟨r6, rfl, H⟩
  show wk iv L h0 (d + 1) 253 17 [lr a0, lr a1] [vr r6, vr a0] s5 (qv F)
  obtain ⟨g7, H⟩ := H
  refine c_virt (p := a0) (as := [vr r6]) (r := []) rfl rfl rfl rfl rfl rfl g7 (wc_mono H (Nat.le_refl _) ?_)
  rintro _ s8 ⟨rfl, H⟩
  show wk iv L h0 (d + 1) 253 20 [lr a0, lr a1] [] s8 (qv F)
  refine w_aload_n rfl rfl ?_
  refine w_null rfl ?_
  refine w_bipush (n := 41) rfl rfl rfl ?_
  obtain ⟨g9, H⟩ := H
  refine c_virt (p := a0) (as := [vr 2, vi 41]) (r := []) rfl rfl rfl rfl rfl rfl g9 (wc_mono H (Nat.le_refl _) ?_)
  rintro _ s10 ⟨rfl, H⟩
  show wk iv L h0 (d + 1) 253 27 [lr a0, lr a1] [] s10 (qv F)
  refine w_aload_n rfl rfl ?_
  obtain ⟨g11, H⟩ := H
  refine c_getr rfl rfl rfl g11 ?_
  obtain ⟨g12, H⟩ := H
  refine c_get rfl rfl rfl g12 ?_
  refine w_bipush (n := 11) rfl rfl rfl ?_
  refine w_icmp_ne rfl (fun h => ?_) (fun h => ?_)
  · replace H := H.1 h
    refine w_aload_n rfl rfl ?_
    refine c_getr rfl rfl rfl g11 ?_
    refine c_null rfl (fun h => ?_) (fun h => ?_)
    · replace H := H.1 h
      refine w_aload_n rfl rfl ?_
      refine w_aload_n rfl rfl ?_
      refine c_getr rfl rfl rfl g11 ?_
      refine w_iconst (n := 0) rfl rfl ?_
      obtain ⟨g13, H⟩ := H
      refine c_virt (p := a0) (as := [vr (fR s10 a1 3), vi 0]) (r := []) rfl rfl rfl rfl rfl rfl g13 (wc_mono H (Nat.le_refl _) ?_)
      rintro _ s14 ⟨rfl, H⟩
      show wk iv L h0 (d + 1) 253 92 [lr a0, lr a1] [] s14 (qv F)
      refine w_aload_n rfl rfl ?_
      refine w_null rfl ?_
      refine w_bipush (n := 32) rfl rfl rfl ?_
      obtain ⟨g15, H⟩ := H
      refine c_virt (p := a0) (as := [vr 2, vi 32]) (r := []) rfl rfl rfl rfl rfl rfl g15 (wc_mono H (Nat.le_refl _) ?_)
      rintro _ s16 ⟨rfl, H⟩
      show wk iv L h0 (d + 1) 253 99 [lr a0, lr a1] [] s16 (qv F)
      exact w_ret rfl rfl ⟨rfl, H⟩
    · replace H := H.2 h
      refine w_aload_n rfl rfl ?_
      refine w_aload_n rfl rfl ?_
      refine c_getr rfl rfl rfl g11 ?_
      refine w_iconst (n := 0) rfl rfl ?_
      obtain ⟨g17, H⟩ := H
      refine c_virt (p := a0) (as := [vr (fR s10 a1 4), vi 0]) (r := []) rfl rfl rfl rfl rfl rfl g17 (wc_mono H (Nat.le_refl _) ?_)
      rintro _ s18 ⟨rfl, H⟩
      show wk iv L h0 (d + 1) 253 76 [lr a0, lr a1] [] s18 (qv F)
      refine w_aload_n rfl rfl ?_
      refine w_null rfl ?_
      refine w_bipush (n := 32) rfl rfl rfl ?_
      obtain ⟨g19, H⟩ := H
      refine c_virt (p := a0) (as := [vr 2, vi 32]) (r := []) rfl rfl rfl rfl rfl rfl g19 (wc_mono H (Nat.le_refl _) ?_)
      rintro _ s20 ⟨rfl, H⟩
      show wk iv L h0 (d + 1) 253 83 [lr a0, lr a1] [] s20 (qv F)
      refine w_aload_n rfl rfl ?_
      refine w_aload_n rfl rfl ?_
      obtain ⟨g21, H⟩ := H
      refine c_getr rfl rfl rfl g21 ?_
      refine w_iconst (n := 0) rfl rfl ?_
      obtain ⟨g22, H⟩ := H
      refine c_virt (p := a0) (as := [vr (fR s20 a1 3), vi 0]) (r := []) rfl rfl rfl rfl rfl rfl g22 (wc_mono H (Nat.le_refl _) ?_)
      rintro _ s23 ⟨rfl, H⟩
      show wk iv L h0 (d + 1) 253 92 [lr a0, lr a1] [] s23 (qv F)
      refine w_aload_n rfl rfl ?_
      refine w_null rfl ?_
      refine w_bipush (n := 32) rfl rfl rfl ?_
      obtain ⟨g24, H⟩ := H
      refine c_virt (p := a0) (as := [vr 2, vi 32]) (r := []) rfl rfl rfl rfl rfl rfl g24 (wc_mono H (Nat.le_refl _) ?_)
      rintro _ s25 ⟨rfl, H⟩
      show wk iv L h0 (d + 1) 253 99 [lr a0, lr a1] [] s25 (qv F)
      exact w_ret rfl rfl ⟨rfl, H⟩
  · replace H := H.2 h
    refine w_aload_n rfl rfl ?_
    refine w_null rfl ?_
    refine w_iconst (n := (-1)) rfl rfl ?_
    refine w_aload_n rfl rfl ?_
    refine c_getr rfl rfl rfl g11 ?_
    refine c_get rfl rfl rfl g12 ?_
    obtain ⟨g26, H⟩ := H
    refine w_isub rfl g26 ?_
    obtain ⟨g27, H⟩ := H
    refine c_virt (p := a0) (as := [vr 2, vi ((-1) - (fI s10 (fR s10 a1 2) 0))]) (r := []) rfl rfl rfl rfl rfl rfl g27 (wc_mono H (Nat.le_refl _) ?_)
    rintro _ s28 ⟨rfl, H⟩
    show wk iv L h0 (d + 1) 253 53 [lr a0, lr a1] [] s28 (qv F)
    refine w_aload_n rfl rfl ?_
    refine w_null rfl ?_
    refine w_bipush (n := 32) rfl rfl rfl ?_
    obtain ⟨g29, H⟩ := H
    refine c_virt (p := a0) (as := [vr 2, vi 32]) (r := []) rfl rfl rfl rfl rfl rfl g29 (wc_mono H (Nat.le_refl _) ?_)
    rintro _ s30 ⟨rfl, H⟩
    show wk iv L h0 (d + 1) 253 60 [lr a0, lr a1] [] s30 (qv F)
    refine w_aload_n rfl rfl ?_
    obtain ⟨g31, H⟩ := H
    refine c_getr rfl rfl rfl g31 ?_
    refine c_null rfl (fun h => ?_) (fun h => ?_)
    · replace H := H.1 h
      refine w_aload_n rfl rfl ?_
      refine w_aload_n rfl rfl ?_
      refine c_getr rfl rfl rfl g31 ?_
      refine w_iconst (n := 0) rfl rfl ?_
      obtain ⟨g32, H⟩ := H
      refine c_virt (p := a0) (as := [vr (fR s30 a1 3), vi 0]) (r := []) rfl rfl rfl rfl rfl rfl g32 (wc_mono H (Nat.le_refl _) ?_)
      rintro _ s33 ⟨rfl, H⟩
      show wk iv L h0 (d + 1) 253 92 [lr a0, lr a1] [] s33 (qv F)
      refine w_aload_n rfl rfl ?_
      refine w_null rfl ?_
      refine w_bipush (n := 32) rfl rfl rfl ?_
      obtain ⟨g34, H⟩ := H
      refine c_virt (p := a0) (as := [vr 2, vi 32]) (r := []) rfl rfl rfl rfl rfl rfl g34 (wc_mono H (Nat.le_refl _) ?_)
      rintro _ s35 ⟨rfl, H⟩
      show wk iv L h0 (d + 1) 253 99 [lr a0, lr a1] [] s35 (qv F)
      exact w_ret rfl rfl ⟨rfl, H⟩
    · replace H := H.2 h
      refine w_aload_n rfl rfl ?_
      refine w_aload_n rfl rfl ?_
      refine c_getr rfl rfl rfl g31 ?_
      refine w_iconst (n := 0) rfl rfl ?_
      obtain ⟨g36, H⟩ := H
      refine c_virt (p := a0) (as := [vr (fR s30 a1 4), vi 0]) (r := []) rfl rfl rfl rfl rfl rfl g36 (wc_mono H (Nat.le_refl _) ?_)
      rintro _ s37 ⟨rfl, H⟩
      show wk iv L h0 (d + 1) 253 76 [lr a0, lr a1] [] s37 (qv F)
      refine w_aload_n rfl rfl ?_
      refine w_null rfl ?_
      refine w_bipush (n := 32) rfl rfl rfl ?_
      obtain ⟨g38, H⟩ := H
      refine c_virt (p := a0) (as := [vr 2, vi 32]) (r := []) rfl rfl rfl rfl rfl rfl g38 (wc_mono H (Nat.le_refl _) ?_)
      rintro _ s39 ⟨rfl, H⟩
      show wk iv L h0 (d + 1) 253 83 [lr a0, lr a1] [] s39 (qv F)
      refine w_aload_n rfl rfl ?_
      refine w_aload_n rfl rfl ?_
      obtain ⟨g40, H⟩ := H
      refine c_getr rfl rfl rfl g40 ?_
      refine w_iconst (n := 0) rfl rfl ?_
      obtain ⟨g41, H⟩ := H
      refine c_virt (p := a0) (as := [vr (fR s39 a1 3), vi 0]) (r := []) rfl rfl rfl rfl rfl rfl g41 (wc_mono H (Nat.le_refl _) ?_)
      rintro _ s42 ⟨rfl, H⟩
      show wk iv L h0 (d + 1) 253 92 [lr a0, lr a1] [] s42 (qv F)
      refine w_aload_n rfl rfl ?_
      refine w_null rfl ?_
      refine w_bipush (n := 32) rfl rfl rfl ?_
      obtain ⟨g43, H⟩ := H
      refine c_virt (p := a0) (as := [vr 2, vi 32]) (r := []) rfl rfl rfl rfl rfl rfl g43 (wc_mono H (Nat.le_refl _) ?_)
      rintro _ s44 ⟨rfl, H⟩
      show wk iv L h0 (d + 1) 253 99 [lr a0, lr a1] [] s44 (qv F)
      exact w_ret rfl rfl ⟨rfl, H⟩

/-- HoleDesk$Writer.wordOf(I)Ljava/lang/String; -/
theorem C254 {iv : List (Int × Int)} {L : Nat} {h0 : MH} {d : Nat} {s : SC} {a1 : Int} {F : Nat → SC → Prop} (H : ((a1 = 4 → F 11 s) ∧ (a1 = 5 → F 12 s) ∧ (a1 = 6 → F 13 s) ∧ (a1 = 7 → F 14 s) ∧ (a1 = 8 ∨ a1 = 10 ∨ a1 = 12 ∨ a1 < 4 ∨ 13 < a1 → F 18 s) ∧ (a1 = 9 → F 15 s) ∧ (a1 = 11 → F 16 s) ∧ (a1 = 13 → F 17 s))) : ck iv L h0 d 254 [vi a1] s (qa F) := by
  show wk iv L h0 d 254 0 [li a1] [] s (qa F)
  refine w_iload_n rfl rfl ?_
  have J56 : (a1 = 4) → wk iv L h0 d 254 56 [li a1] [] s (qa F) := fun h => by
    replace H := H.1 h
    refine w_ldcs (x := 11) rfl rfl (by decide) ?_
    exact w_aret rfl rfl ⟨_, rfl, H⟩
  have J59 : (a1 = 5) → wk iv L h0 d 254 59 [li a1] [] s (qa F) := fun h => by
    replace H := H.2.1 h
    refine w_ldcs (x := 12) rfl rfl (by decide) ?_
    exact w_aret rfl rfl ⟨_, rfl, H⟩
  have J62 : (a1 = 6) → wk iv L h0 d 254 62 [li a1] [] s (qa F) := fun h => by
    replace H := H.2.2.1 h
    refine w_ldcs (x := 13) rfl rfl (by decide) ?_
    exact w_aret rfl rfl ⟨_, rfl, H⟩
  have J65 : (a1 = 7) → wk iv L h0 d 254 65 [li a1] [] s (qa F) := fun h => by
    replace H := H.2.2.2.1 h
    refine w_ldcs (x := 14) rfl rfl (by decide) ?_
    exact w_aret rfl rfl ⟨_, rfl, H⟩
  have J77 : (a1 = 8 ∨ a1 = 10 ∨ a1 = 12 ∨ a1 < 4 ∨ 13 < a1) → wk iv L h0 d 254 77 [li a1] [] s (qa F) := fun h => by
    replace H := H.2.2.2.2.1 h
    refine w_ldcs (x := 18) rfl rfl (by decide) ?_
    exact w_aret rfl rfl ⟨_, rfl, H⟩
  have J68 : (a1 = 9) → wk iv L h0 d 254 68 [li a1] [] s (qa F) := fun h => by
    replace H := H.2.2.2.2.2.1 h
    refine w_ldcs (x := 15) rfl rfl (by decide) ?_
    exact w_aret rfl rfl ⟨_, rfl, H⟩
  have J71 : (a1 = 11) → wk iv L h0 d 254 71 [li a1] [] s (qa F) := fun h => by
    replace H := H.2.2.2.2.2.2.1 h
    refine w_ldcs (x := 16) rfl rfl (by decide) ?_
    exact w_aret rfl rfl ⟨_, rfl, H⟩
  have J74 : (a1 = 13) → wk iv L h0 d 254 74 [li a1] [] s (qa F) := fun h => by
    replace H := H.2.2.2.2.2.2.2 h
    refine w_ldcs (x := 17) rfl rfl (by decide) ?_
    exact w_aret rfl rfl ⟨_, rfl, H⟩
  refine w_tsw (td := 77) (ts := [56, 59, 62, 65, 77, 68, 77, 71, 77, 74]) rfl rfl rfl rfl rfl rfl (fun h => J77 (by omega)) ?_
  exact swA_c (fun h => J56 (by omega)) (swA_c (fun h => J59 (by omega)) (swA_c (fun h => J62 (by omega)) (swA_c (fun h => J65 (by omega)) (swA_c (fun h => J77 (by omega)) (swA_c (fun h => J68 (by omega)) (swA_c (fun h => J77 (by omega)) (swA_c (fun h => J71 (by omega)) (swA_c (fun h => J77 (by omega)) (swA_c (fun h => J74 (by omega)) (swA_n))))))))))
