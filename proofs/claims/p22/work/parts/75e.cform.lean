/-! What the methods of the desk come to. Printed by wip/gen2/gens.py. -/
/-- HoleDesk$Snapshot.bringBack(LHoleDesk$Sheet;)V -/
theorem C223 {iv : List (Int × Int)} {L : Nat} {h0 : MH} {d : Nat} {s : SC} {a0 : Nat} {a1 : Nat} {F : SC → Prop} (H : wk iv L h0 (d + 1) 223 2 [lr a0, lr a1, li 0] [] s (qv F)) : ck iv L h0 (d + 1) 223 [vr a0, vr a1] s (qv F) := by
  show wk iv L h0 (d + 1) 223 0 [lr a0, lr a1] [] s (qv F)
  refine w_iconst (n := 0) rfl rfl ?_
  refine w_istore_n rfl rfl ?_
  exact wp_ls (sl_s (sl_s (sl_s (sl_0)))) H

/-- HoleDesk$Snapshot.bringBack(LHoleDesk$Sheet;)V at 2 -/
theorem C223_2 {iv : List (Int × Int)} {L : Nat} {h0 : MH} {d : Nat} {s : SC} {l0 : Nat} {l1 : Nat} {l2 : Int} {F : SC → Prop} (H : (kl s l0 = 9) ∧ ((fI s l0 4 ≤ l2 → (kl s l1 = 8) ∧ F (uR s l1 2 (fR s l0 5))) ∧ (l2 < fI s l0 4 → (kl s (fR s l0 0) = 103) ∧ (0 ≤ l2 ∧ l2 < le s (fR s l0 0)) ∧ (kl s (fR s l0 3) = 100) ∧ (0 ≤ l2 ∧ l2 < le s (fR s l0 3)) ∧ (kl s (aR s (fR s l0 0) l2) = 5) ∧ (kl s (fR s l0 1) = 103) ∧ (0 ≤ l2 ∧ l2 < le s (fR s l0 1)) ∧ ((aR s (fR s l0 1) l2 ≠ 2 → (kl s (fR s l0 2) = 100) ∧ (0 ≤ l2 ∧ l2 < le s (fR s l0 2)) ∧ (kl s (aR s (fR s l0 1) l2) = 5) ∧ ck iv L h0 d 188 [vr (aR s (fR s l0 1) l2), vi (aI s (fR s l0 2) l2), vr (aR s (fR s l0 0) l2)] (uR (uI s (aR s (fR s l0 0) l2) 4 (aI s (fR s l0 3) l2)) (aR s (fR s l0 0) l2) 12 2) (qv fun s13 => (-2147483648 ≤ l2 + 1 ∧ l2 + 1 ≤ 2147483647) ∧ wk iv L h0 (d + 1) 223 2 [lr l0, lr l1, li (l2 + 1)] [] s13 (qv F))) ∧ (aR s (fR s l0 1) l2 = 2 → (kl s l1 = 8) ∧ (-2147483648 ≤ l2 + 1 ∧ l2 + 1 ≤ 2147483647) ∧ wk iv L h0 (d + 1) 223 2 [lr l0, lr l1, li (l2 + 1)] [] (uR (uR (uR (uI s (aR s (fR s l0 0) l2) 4 (aI s (fR s l0 3) l2)) (aR s (fR s l0 0) l2) 12 2) (aR s (fR s l0 0) l2) 5 2) l1 1 (aR s (fR s l0 0) l2)) (qv F)))))) : wk iv L h0 (d + 1) 223 2 [lr l0, lr l1, li l2] [] s (qv F) := by
  refine w_iload_n rfl rfl ?_
  refine w_aload_n rfl rfl ?_
  obtain ⟨g1, H⟩ := H
  refine c_get rfl rfl rfl g1 ?_
  refine w_icmp_ge rfl (fun h => ?_) (fun h => ?_)
  · replace H := H.1 h
    refine w_aload_n rfl rfl ?_
    refine w_aload_n rfl rfl ?_
    refine c_getr rfl rfl rfl g1 ?_
    obtain ⟨g2, H⟩ := H
    refine c_putr rfl rfl rfl rfl g2 ?_
    exact w_ret rfl rfl ⟨rfl, H⟩
  · replace H := H.2 h
    refine w_aload_n rfl rfl ?_
    refine c_getr rfl rfl rfl g1 ?_
    refine w_iload_n rfl rfl ?_
    obtain ⟨g3, H⟩ := H
    obtain ⟨g4, H⟩ := H
    refine c_aald (t := 3) rfl ⟨g3, by decide, by decide⟩ g4 ?_
    refine w_astore_n rfl rfl ?_
    refine w_aload_n rfl rfl ?_
    refine w_aload_n rfl rfl ?_
    refine c_getr rfl rfl rfl g1 ?_
    refine w_iload_n rfl rfl ?_
    obtain ⟨g5, H⟩ := H
    obtain ⟨g6, H⟩ := H
    refine c_ald rfl g5 g6 ?_
    obtain ⟨g7, H⟩ := H
    refine c_put rfl rfl rfl rfl g7 ?_
    refine w_aload_n rfl rfl ?_
    refine w_null rfl ?_
    refine c_putr rfl rfl rfl rfl g7 ?_
    refine w_aload_n rfl rfl ?_
    refine c_getr rfl rfl rfl g1 ?_
    show wk iv L h0 (d + 1) 223 36 [lr l0, lr l1, li l2, lr (aR s (fR s l0 0) l2)] [vr (fR s l0 1)] (uR (uI s (aR s (fR s l0 0) l2) 4 (aI s (fR s l0 3) l2)) (aR s (fR s l0 0) l2) 12 2) (qv F)
    refine w_iload_n rfl rfl ?_
    obtain ⟨g8, H⟩ := H
    obtain ⟨g9, H⟩ := H
    refine c_aald (t := 3) rfl ⟨g8, by decide, by decide⟩ g9 ?_
    show wk iv L h0 (d + 1) 223 38 [lr l0, lr l1, li l2, lr (aR s (fR s l0 0) l2)] [vr (aR s (fR s l0 1) l2)] (uR (uI s (aR s (fR s l0 0) l2) 4 (aI s (fR s l0 3) l2)) (aR s (fR s l0 0) l2) 12 2) (qv F)
    refine c_nonnull rfl (fun h => ?_) (fun h => ?_)
    · replace H := H.1 h
      refine w_aload_n rfl rfl ?_
      refine c_getr rfl rfl rfl g1 ?_
      show wk iv L h0 (d + 1) 223 58 [lr l0, lr l1, li l2, lr (aR s (fR s l0 0) l2)] [vr (fR s l0 1)] (uR (uI s (aR s (fR s l0 0) l2) 4 (aI s (fR s l0 3) l2)) (aR s (fR s l0 0) l2) 12 2) (qv F)
      refine w_iload_n rfl rfl ?_
      refine c_aald (t := 3) rfl ⟨g8, by decide, by decide⟩ g9 ?_
      show wk iv L h0 (d + 1) 223 60 [lr l0, lr l1, li l2, lr (aR s (fR s l0 0) l2)] [vr (aR s (fR s l0 1) l2)] (uR (uI s (aR s (fR s l0 0) l2) 4 (aI s (fR s l0 3) l2)) (aR s (fR s l0 0) l2) 12 2) (qv F)
      refine w_aload_n rfl rfl ?_
      refine c_getr rfl rfl rfl g1 ?_
      show wk iv L h0 (d + 1) 223 64 [lr l0, lr l1, li l2, lr (aR s (fR s l0 0) l2)] [vr (fR s l0 2), vr (aR s (fR s l0 1) l2)] (uR (uI s (aR s (fR s l0 0) l2) 4 (aI s (fR s l0 3) l2)) (aR s (fR s l0 0) l2) 12 2) (qv F)
      refine w_iload_n rfl rfl ?_
      obtain ⟨g10, H⟩ := H
      obtain ⟨g11, H⟩ := H
      refine c_ald rfl g10 g11 ?_
      show wk iv L h0 (d + 1) 223 66 [lr l0, lr l1, li l2, lr (aR s (fR s l0 0) l2)] [vi (aI s (fR s l0 2) l2), vr (aR s (fR s l0 1) l2)] (uR (uI s (aR s (fR s l0 0) l2) 4 (aI s (fR s l0 3) l2)) (aR s (fR s l0 0) l2) 12 2) (qv F)
      refine w_aload_n rfl rfl ?_
      obtain ⟨g12, H⟩ := H
      refine c_virt (p := (aR s (fR s l0 1) l2)) (as := [vi (aI s (fR s l0 2) l2), vr (aR s (fR s l0 0) l2)]) (r := []) rfl rfl rfl rfl rfl rfl g12 (wc_mono H (Nat.le_refl _) ?_)
      rintro _ s13 ⟨rfl, H⟩
      show wk iv L h0 (d + 1) 223 70 [lr l0, lr l1, li l2, lr (aR s (fR s l0 0) l2)] [] s13 (qv F)
      obtain ⟨g14, H⟩ := H
      refine w_iinc rfl rfl rfl g14 ?_
      refine w_goto rfl ?_
      exact wp_ls (sl_s (sl_s (sl_s (sl_0)))) H
    · replace H := H.2 h
      refine w_aload_n rfl rfl ?_
      refine w_null rfl ?_
      refine c_putr rfl rfl rfl rfl g7 ?_
      refine w_aload_n rfl rfl ?_
      refine w_aload_n rfl rfl ?_
      obtain ⟨g15, H⟩ := H
      refine c_putr rfl rfl rfl rfl g15 ?_
      refine w_goto rfl ?_
      obtain ⟨g16, H⟩ := H
      refine w_iinc rfl rfl rfl g16 ?_
      refine w_goto rfl ?_
      exact wp_ls (sl_s (sl_s (sl_s (sl_0)))) H

/-- HoleDesk$Value.<init>()V -/
theorem C224 {iv : List (Int × Int)} {L : Nat} {h0 : MH} {d : Nat} {s : SC} {a0 : Nat} {F : SC → Prop} (H : (a0 ≠ 2) ∧ (kl s a0 = 10) ∧ F (uI (uR (uR (uR (uR (uI (uI s a0 0 0) a0 1 0) a0 2 2) a0 3 2) a0 4 2) a0 5 2) a0 6 0)) : ck iv L h0 d 224 [vr a0] s (qv F) := by
  show wk iv L h0 d 224 0 [lr a0] [] s (qv F)
  refine w_aload_n rfl rfl ?_
  obtain ⟨g1, H⟩ := H
  refine c_oinit rfl rfl g1 ?_
  refine w_aload_n rfl rfl ?_
  refine w_iconst (n := 0) rfl rfl ?_
  obtain ⟨g2, H⟩ := H
  refine c_put rfl rfl rfl rfl g2 ?_
  refine w_aload_n rfl rfl ?_
  refine w_iconst (n := 0) rfl rfl ?_
  refine c_put rfl rfl rfl rfl g2 ?_
  refine w_aload_n rfl rfl ?_
  refine w_null rfl ?_
  refine c_putr rfl rfl rfl rfl g2 ?_
  refine w_aload_n rfl rfl ?_
  refine w_null rfl ?_
  refine c_putr rfl rfl rfl rfl g2 ?_
  refine w_aload_n rfl rfl ?_
  refine w_null rfl ?_
  refine c_putr rfl rfl rfl rfl g2 ?_
  refine w_aload_n rfl rfl ?_
  refine w_null rfl ?_
  refine c_putr rfl rfl rfl rfl g2 ?_
  refine w_aload_n rfl rfl ?_
  refine w_iconst (n := 0) rfl rfl ?_
  refine c_putz rfl rfl rfl rfl (by decide) g2 ?_
  exact w_ret rfl rfl ⟨rfl, H⟩

/-- HoleDesk$Value.isLeft()Z -/
theorem C225 {iv : List (Int × Int)} {L : Nat} {h0 : MH} {d : Nat} {s : SC} {a0 : Nat} {F : Int → SC → Prop} (H : (kl s a0 = 10) ∧ ((fI s a0 0 < 4 → F 0 s) ∧ (4 ≤ fI s a0 0 → F 1 s))) : ck iv L h0 d 225 [vr a0] s (qi F) := by
  show wk iv L h0 d 225 0 [lr a0] [] s (qi F)
  refine w_aload_n rfl rfl ?_
  obtain ⟨g1, H⟩ := H
  refine c_get rfl rfl rfl g1 ?_
  refine w_iconst (n := 4) rfl rfl ?_
  refine w_icmp_lt rfl (fun h => ?_) (fun h => ?_)
  · replace H := H.1 h
    refine w_iconst (n := 0) rfl rfl ?_
    exact w_iretz rfl rfl (by decide) ⟨_, rfl, H⟩
  · replace H := H.2 h
    refine w_iconst (n := 1) rfl rfl ?_
    refine w_goto rfl ?_
    exact w_iretz rfl rfl (by decide) ⟨_, rfl, H⟩

/-- HoleDesk$Worker.<init>()V -/
theorem C226 {iv : List (Int × Int)} {L : Nat} {h0 : MH} {d : Nat} {s : SC} {a0 : Nat} {F : SC → Prop} (H : (a0 ≠ 2) ∧ (353 ≤ nxt s) ∧ (nxt s ≠ 2) ∧ ck iv L h0 d 193 [vr (nxt s)] (nO s 5) (qv fun s4 => (kl s4 a0 = 11) ∧ (353 ≤ nxt s4) ∧ (nxt s4 ≠ 2) ∧ ck iv L h0 d 193 [vr (nxt s4)] (nO (uR s4 a0 0 (nxt s)) 5) (qv fun s8 => (kl s8 a0 = 11) ∧ F (uR (uI (uI (uI (uI (uR s8 a0 1 (nxt s4)) a0 2 0) a0 3 0) a0 4 (-1)) a0 5 (-9)) a0 6 2)))) : ck iv L h0 (d + 1) 226 [vr a0] s (qv F) := by
  show wk iv L h0 (d + 1) 226 0 [lr a0] [] s (qv F)
  refine w_aload_n rfl rfl ?_
  obtain ⟨g1, H⟩ := H
  refine c_oinit rfl rfl g1 ?_
  refine w_aload_n rfl rfl ?_
  obtain ⟨g2, H⟩ := H
  refine c_new rfl rfl g2 ?_
  show wk iv L h0 (d + 1) 226 8 [lr a0] [vr (nxt s), vr a0] (nO s 5) (qv F)
  refine w_dup rfl rfl ?_
  obtain ⟨g3, H⟩ := H
  refine c_spec (p := (nxt s)) (as := []) (r := [vr (nxt s), vr a0]) rfl rfl rfl rfl rfl g3 (wc_mono H (Nat.le_refl _) ?_)
  rintro _ s4 ⟨rfl, H⟩
  show wk iv L h0 (d + 1) 226 12 [lr a0] [vr (nxt s), vr a0] s4 (qv F)
  obtain ⟨g5, H⟩ := H
  refine c_putr rfl rfl rfl rfl g5 ?_
  refine w_aload_n rfl rfl ?_
  obtain ⟨g6, H⟩ := H
  refine c_new rfl rfl g6 ?_
  show wk iv L h0 (d + 1) 226 19 [lr a0] [vr (nxt s4), vr a0] (nO (uR s4 a0 0 (nxt s)) 5) (qv F)
  refine w_dup rfl rfl ?_
  obtain ⟨g7, H⟩ := H
  refine c_spec (p := (nxt s4)) (as := []) (r := [vr (nxt s4), vr a0]) rfl rfl rfl rfl rfl g7 (wc_mono H (Nat.le_refl _) ?_)
  rintro _ s8 ⟨rfl, H⟩
  show wk iv L h0 (d + 1) 226 23 [lr a0] [vr (nxt s4), vr a0] s8 (qv F)
  obtain ⟨g9, H⟩ := H
  refine c_putr rfl rfl rfl rfl g9 ?_
  refine w_aload_n rfl rfl ?_
  refine w_iconst (n := 0) rfl rfl ?_
  refine c_put rfl rfl rfl rfl g9 ?_
  refine w_aload_n rfl rfl ?_
  refine w_iconst (n := 0) rfl rfl ?_
  refine c_put rfl rfl rfl rfl g9 ?_
  refine w_aload_n rfl rfl ?_
  refine w_iconst (n := (-1)) rfl rfl ?_
  refine c_put rfl rfl rfl rfl g9 ?_
  refine w_aload_n rfl rfl ?_
  refine w_bipush (n := (-9)) rfl rfl rfl ?_
  refine c_put rfl rfl rfl rfl g9 ?_
  refine w_aload_n rfl rfl ?_
  refine w_null rfl ?_
  refine c_putr rfl rfl rfl rfl g9 ?_
  exact w_ret rfl rfl ⟨rfl, H⟩

/-- HoleDesk$Worker.workAll(LHoleDesk$Node;I)I -/
theorem C227 {iv : List (Int × Int)} {L : Nat} {h0 : MH} {d : Nat} {s : SC} {a0 : Nat} {a1 : Nat} {a2 : Int} {F : Int → SC → Prop} (H : (kl s a0 = 11) ∧ ck iv L h0 d 230 [vr a0, vi a2] s (qv fun s2 => (kl s2 a0 = 11) ∧ ck iv L h0 d 234 [vr a0, vr a1, vr 2, vi 0] s2 (qa fun r5 s4 => (kl s4 a0 = 11) ∧ ck iv L h0 d 231 [vr a0, vr r5] s4 (qi fun r8 s7 => F r8 s7)))) : ck iv L h0 (d + 1) 227 [vr a0, vr a1, vi a2] s (qi F) := by
  show wk iv L h0 (d + 1) 227 0 [lr a0, lr a1, li a2] [] s (qi F)
  refine w_aload_n rfl rfl ?_
  refine w_iload_n rfl rfl ?_
  obtain ⟨g1, H⟩ := H
  refine c_virt (p := a0) (as := [vi a2]) (r := []) rfl rfl rfl rfl rfl rfl g1 (wc_mono H (Nat.le_refl _) ?_)
  rintro _ s2 ⟨rfl, H⟩
  show wk iv L h0 (d + 1) 227 5 [lr a0, lr a1, li a2] [] s2 (qi F)
  refine w_aload_n rfl rfl ?_
  refine w_aload_n rfl rfl ?_
  refine w_aload_n rfl rfl ?_
  refine w_null rfl ?_
  refine w_iconst (n := 0) rfl rfl ?_
  obtain ⟨g3, H⟩ := H
  refine c_virt (p := a0) (as := [vr a1, vr 2, vi 0]) (r := [vr a0]) rfl rfl rfl rfl rfl rfl g3 (wc_mono H (Nat.le_refl _) ?_)
  rintro _ s4 ⟨r5, rfl, H⟩
  show wk iv L h0 (d + 1) 227 13 [lr a0, lr a1, li a2] [vr r5, vr a0] s4 (qi F)
  obtain ⟨g6, H⟩ := H
  refine c_virt (p := a0) (as := [vr r5]) (r := []) rfl rfl rfl rfl rfl rfl g6 (wc_mono H (Nat.le_refl _) ?_)
  rintro _ s7 ⟨r8, rfl, H⟩
  show wk iv L h0 (d + 1) 227 16 [lr a0, lr a1, li a2] [vi r8] s7 (qi F)
  exact w_iret rfl rfl ⟨_, rfl, H⟩

/-- HoleDesk$Worker.goOnAll(I)I -/
theorem C228 {iv : List (Int × Int)} {L : Nat} {h0 : MH} {d : Nat} {s : SC} {a0 : Nat} {a1 : Int} {F : Int → SC → Prop} (H : (kl s a0 = 11) ∧ ck iv L h0 d 230 [vr a0, vi a1] s (qv fun s2 => (kl s2 a0 = 11) ∧ ck iv L h0 d 241 [vr a0, vr (fR s a0 6), vi 0] s2 (qa fun r5 s4 => (kl s4 a0 = 11) ∧ ck iv L h0 d 231 [vr a0, vr r5] s4 (qi fun r8 s7 => F r8 s7)))) : ck iv L h0 (d + 1) 228 [vr a0, vi a1] s (qi F) := by
  show wk iv L h0 (d + 1) 228 0 [lr a0, li a1] [] s (qi F)
  refine w_aload_n rfl rfl ?_
  obtain ⟨g1, H⟩ := H
  refine c_getr rfl rfl rfl g1 ?_
  refine w_astore_n rfl rfl ?_
  refine w_aload_n rfl rfl ?_
  refine w_iload_n rfl rfl ?_
  refine c_virt (p := a0) (as := [vi a1]) (r := []) rfl rfl rfl rfl rfl rfl g1 (wc_mono H (Nat.le_refl _) ?_)
  rintro _ s2 ⟨rfl, H⟩
  show wk iv L h0 (d + 1) 228 10 [lr a0, li a1, lr (fR s a0 6)] [] s2 (qi F)
  refine w_aload_n rfl rfl ?_
  refine w_aload_n rfl rfl ?_
  refine w_aload_n rfl rfl ?_
  refine w_iconst (n := 0) rfl rfl ?_
  obtain ⟨g3, H⟩ := H
  refine c_virt (p := a0) (as := [vr (fR s a0 6), vi 0]) (r := [vr a0]) rfl rfl rfl rfl rfl rfl g3 (wc_mono H (Nat.le_refl _) ?_)
  rintro _ s4 ⟨r5, rfl, H⟩
  show wk iv L h0 (d + 1) 228 17 [lr a0, li a1, lr (fR s a0 6)] [vr r5, vr a0] s4 (qi F)
  obtain ⟨g6, H⟩ := H
  refine c_virt (p := a0) (as := [vr r5]) (r := []) rfl rfl rfl rfl rfl rfl g6 (wc_mono H (Nat.le_refl _) ?_)
  rintro _ s7 ⟨r8, rfl, H⟩
  show wk iv L h0 (d + 1) 228 20 [lr a0, li a1, lr (fR s a0 6)] [vi r8] s7 (qi F)
  exact w_iret rfl rfl ⟨_, rfl, H⟩

/-- HoleDesk$Worker.lookUp(LHoleDesk$Seen;I)LHoleDesk$Value; -/
theorem C229 {iv : List (Int × Int)} {L : Nat} {h0 : MH} {d : Nat} {s : SC} {a0 : Nat} {a1 : Nat} {a2 : Int} {F : Nat → SC → Prop} (H : wk iv L h0 d 229 2 [ln, ln, li a2, lr a1] [] s (qa F)) : ck iv L h0 d 229 [vr a0, vr a1, vi a2] s (qa F) := by
  show wk iv L h0 d 229 0 [lr a0, lr a1, li a2] [] s (qa F)
  refine w_aload_n rfl rfl ?_
  refine w_astore_n rfl rfl ?_
  exact wp_ls (sl_n (sl_n (sl_s (sl_s (sl_0))))) H

/-- HoleDesk$Worker.lookUp(LHoleDesk$Seen;I)LHoleDesk$Value; at 2 -/
theorem C229_2 {iv : List (Int × Int)} {L : Nat} {h0 : MH} {d : Nat} {s : SC} {l2 : Int} {l3 : Nat} {F : Nat → SC → Prop} (H : ((l3 = 2 → F 2 s) ∧ (l3 ≠ 2 → (kl s l3 = 7) ∧ ((fI s l3 0 ≠ l2 → wk iv L h0 d 229 2 [ln, ln, li l2, lr (fR s l3 2)] [] s (qa F)) ∧ (fI s l3 0 = l2 → F (fR s l3 1) s))))) : wk iv L h0 d 229 2 [ln, ln, li l2, lr l3] [] s (qa F) := by
  refine w_aload_n rfl rfl ?_
  refine c_null rfl (fun h => ?_) (fun h => ?_)
  · replace H := H.1 h
    refine w_null rfl ?_
    exact w_aret rfl rfl ⟨_, rfl, H⟩
  · replace H := H.2 h
    refine w_aload_n rfl rfl ?_
    obtain ⟨g1, H⟩ := H
    refine c_get rfl rfl rfl g1 ?_
    refine w_iload_n rfl rfl ?_
    refine w_icmp_ne rfl (fun h => ?_) (fun h => ?_)
    · replace H := H.1 h
      refine w_aload_n rfl rfl ?_
      refine c_getr rfl rfl rfl g1 ?_
      refine w_astore_n rfl rfl ?_
      refine w_goto rfl ?_
      exact wp_ls (sl_n (sl_n (sl_s (sl_s (sl_0))))) H
    · replace H := H.2 h
      refine w_aload_n rfl rfl ?_
      refine c_getr rfl rfl rfl g1 ?_
      exact w_aret rfl rfl ⟨_, rfl, H⟩

/-- HoleDesk$Worker.start(I)V -/
theorem C230 {iv : List (Int × Int)} {L : Nat} {h0 : MH} {d : Nat} {s : SC} {a0 : Nat} {a1 : Int} {F : SC → Prop} (H : (kl s a0 = 11) ∧ (kl s (fR (uR s a0 0 (fR s a0 1)) a0 0) = 6) ∧ ck iv L h0 d 194 [vr (fR (uR s a0 0 (fR s a0 1)) a0 0)] (uR (uR s a0 0 (fR s a0 1)) a0 1 (fR s a0 0)) (qv fun s3 => (kl s3 a0 = 11) ∧ F (uI (uI (uI (uI s3 a0 2 a1) a0 3 0) a0 4 (-1)) a0 5 (-9)))) : ck iv L h0 (d + 1) 230 [vr a0, vi a1] s (qv F) := by
  show wk iv L h0 (d + 1) 230 0 [lr a0, li a1] [] s (qv F)
  refine w_aload_n rfl rfl ?_
  obtain ⟨g1, H⟩ := H
  refine c_getr rfl rfl rfl g1 ?_
  refine w_astore_n rfl rfl ?_
  refine w_aload_n rfl rfl ?_
  refine w_aload_n rfl rfl ?_
  refine c_getr rfl rfl rfl g1 ?_
  refine c_putr rfl rfl rfl rfl g1 ?_
  refine w_aload_n rfl rfl ?_
  refine w_aload_n rfl rfl ?_
  refine c_putr rfl rfl rfl rfl g1 ?_
  refine w_aload_n rfl rfl ?_
  refine c_getr rfl rfl rfl g1 ?_
  show wk iv L h0 (d + 1) 230 22 [lr a0, li a1, lr (fR s a0 0)] [vr (fR (uR s a0 0 (fR s a0 1)) a0 0)] (uR (uR s a0 0 (fR s a0 1)) a0 1 (fR s a0 0)) (qv F)
  obtain ⟨g2, H⟩ := H
  refine c_virt (p := (fR (uR s a0 0 (fR s a0 1)) a0 0)) (as := []) (r := []) rfl rfl rfl rfl rfl rfl g2 (wc_mono H (Nat.le_refl _) ?_)
  rintro _ s3 ⟨rfl, H⟩
  show wk iv L h0 (d + 1) 230 25 [lr a0, li a1, lr (fR s a0 0)] [] s3 (qv F)
  refine w_aload_n rfl rfl ?_
  refine w_iload_n rfl rfl ?_
  obtain ⟨g4, H⟩ := H
  refine c_put rfl rfl rfl rfl g4 ?_
  refine w_aload_n rfl rfl ?_
  refine w_iconst (n := 0) rfl rfl ?_
  refine c_put rfl rfl rfl rfl g4 ?_
  refine w_aload_n rfl rfl ?_
  refine w_iconst (n := (-1)) rfl rfl ?_
  refine c_put rfl rfl rfl rfl g4 ?_
  refine w_aload_n rfl rfl ?_
  refine w_bipush (n := (-9)) rfl rfl rfl ?_
  refine c_put rfl rfl rfl rfl g4 ?_
  exact w_ret rfl rfl ⟨rfl, H⟩

/-- HoleDesk$Worker.end(LHoleDesk$Value;)I -/
theorem C231 {iv : List (Int × Int)} {L : Nat} {h0 : MH} {d : Nat} {s : SC} {a0 : Nat} {a1 : Nat} {F : Int → SC → Prop} (H : (kl s a0 = 11) ∧ ((a1 = 2 → F (fI s a0 4) (uR s a0 6 a1)) ∧ (a1 ≠ 2 → (kl s a1 = 10) ∧ ((fI s a1 6 = 0 → F (fI (uI s a0 4 0) a0 4) (uI (uR s a0 6 a1) a0 4 0)) ∧ (fI s a1 6 ≠ 0 → F (fI (uI s a0 4 1) a0 4) (uI (uR s a0 6 a1) a0 4 1)))))) : ck iv L h0 d 231 [vr a0, vr a1] s (qi F) := by
  show wk iv L h0 d 231 0 [lr a0, lr a1] [] s (qi F)
  refine w_aload_n rfl rfl ?_
  refine w_aload_n rfl rfl ?_
  obtain ⟨g1, H⟩ := H
  refine c_putr rfl rfl rfl rfl g1 ?_
  refine w_aload_n rfl rfl ?_
  refine c_null rfl (fun h => ?_) (fun h => ?_)
  · replace H := H.1 h
    refine w_aload_n rfl rfl ?_
    refine c_get rfl rfl rfl g1 ?_
    show wk iv L h0 d 231 29 [lr a0, lr a1] [vi (fI s a0 4)] (uR s a0 6 a1) (qi F)
    exact w_iret rfl rfl ⟨_, rfl, H⟩
  · replace H := H.2 h
    refine w_aload_n rfl rfl ?_
    refine w_aload_n rfl rfl ?_
    obtain ⟨g2, H⟩ := H
    refine c_get rfl rfl rfl g2 ?_
    show wk iv L h0 d 231 14 [lr a0, lr a1] [vi (fI s a1 6), vr a0] (uR s a0 6 a1) (qi F)
    refine w_if_eq rfl (fun h => ?_) (fun h => ?_)
    · replace H := H.1 h
      refine w_iconst (n := 0) rfl rfl ?_
      refine c_put rfl rfl rfl rfl g1 ?_
      refine w_aload_n rfl rfl ?_
      refine c_get rfl rfl rfl g1 ?_
      show wk iv L h0 d 231 29 [lr a0, lr a1] [vi (fI (uI s a0 4 0) a0 4)] (uI (uR s a0 6 a1) a0 4 0) (qi F)
      exact w_iret rfl rfl ⟨_, rfl, H⟩
    · replace H := H.2 h
      refine w_iconst (n := 1) rfl rfl ?_
      refine w_goto rfl ?_
      refine c_put rfl rfl rfl rfl g1 ?_
      refine w_aload_n rfl rfl ?_
      refine c_get rfl rfl rfl g1 ?_
      show wk iv L h0 d 231 29 [lr a0, lr a1] [vi (fI (uI s a0 4 1) a0 4)] (uI (uR s a0 6 a1) a0 4 1) (qi F)
      exact w_iret rfl rfl ⟨_, rfl, H⟩

/-- HoleDesk$Worker.stop(II)LHoleDesk$Value; -/
theorem C232 {iv : List (Int × Int)} {L : Nat} {h0 : MH} {d : Nat} {s : SC} {a0 : Nat} {a1 : Int} {a2 : Int} {F : Nat → SC → Prop} (H : (kl s a0 = 11) ∧ F 2 (uI (uI s a0 4 a1) a0 5 a2)) : ck iv L h0 d 232 [vr a0, vi a1, vi a2] s (qa F) := by
  show wk iv L h0 d 232 0 [lr a0, li a1, li a2] [] s (qa F)
  refine w_aload_n rfl rfl ?_
  refine w_iload_n rfl rfl ?_
  obtain ⟨g1, H⟩ := H
  refine c_put rfl rfl rfl rfl g1 ?_
  refine w_aload_n rfl rfl ?_
  refine w_iload_n rfl rfl ?_
  refine c_put rfl rfl rfl rfl g1 ?_
  refine w_null rfl ?_
  exact w_aret rfl rfl ⟨_, rfl, H⟩

/-- HoleDesk$Worker.isSpent(I)Z -/
theorem C233 {iv : List (Int × Int)} {L : Nat} {h0 : MH} {d : Nat} {s : SC} {a0 : Nat} {a1 : Int} {F : Int → SC → Prop} (H : (kl s a0 = 11) ∧ ((fI s a0 2 ≤ fI s a0 3 → F 1 s) ∧ (fI s a0 3 < fI s a0 2 → ((a1 < 60 → F 0 s) ∧ (60 ≤ a1 → F 1 s))))) : ck iv L h0 d 233 [vr a0, vi a1] s (qi F) := by
  show wk iv L h0 d 233 0 [lr a0, li a1] [] s (qi F)
  refine w_aload_n rfl rfl ?_
  obtain ⟨g1, H⟩ := H
  refine c_get rfl rfl rfl g1 ?_
  refine w_aload_n rfl rfl ?_
  refine c_get rfl rfl rfl g1 ?_
  refine w_icmp_ge rfl (fun h => ?_) (fun h => ?_)
  · replace H := H.1 h
    refine w_iconst (n := 1) rfl rfl ?_
    refine w_goto rfl ?_
    exact w_iretz rfl rfl (by decide) ⟨_, rfl, H⟩
  · replace H := H.2 h
    refine w_iload_n rfl rfl ?_
    refine w_bipush (n := 60) rfl rfl rfl ?_
    refine w_icmp_lt rfl (fun h => ?_) (fun h => ?_)
    · replace H := H.1 h
      refine w_iconst (n := 0) rfl rfl ?_
      exact w_iretz rfl rfl (by decide) ⟨_, rfl, H⟩
    · replace H := H.2 h
      refine w_iconst (n := 1) rfl rfl ?_
      refine w_goto rfl ?_
      exact w_iretz rfl rfl (by decide) ⟨_, rfl, H⟩

/-- HoleDesk$Worker.begin(LHoleDesk$Node;LHoleDesk$Seen;I)LHoleDesk$Value; -/
theorem C234 {iv : List (Int × Int)} {L : Nat} {h0 : MH} {d : Nat} {s : SC} {a0 : Nat} {a1 : Nat} {a2 : Nat} {a3 : Int} {F : Nat → SC → Prop} (H : (kl s a0 = 11) ∧ ck iv L h0 d 233 [vr a0, vi a3] s (qi fun r3 s2 => ((r3 = 0 → (kl s2 a0 = 11) ∧ (-2147483648 ≤ (fI s2 a0 3) + 1 ∧ (fI s2 a0 3) + 1 ≤ 2147483647) ∧ (kl s2 a1 = 5) ∧ ((fI s2 a1 1 ≠ 3 → (-2147483648 ≤ a3 + 1 ∧ a3 + 1 ≤ 2147483647) ∧ ck iv L h0 d 236 [vr a0, vr a1, vr a2, vi (a3 + 1)] (uI s2 a0 3 ((fI s2 a0 3) + 1)) (qa fun r9 s8 => ((r9 = 2 → F r9 s8) ∧ (r9 ≠ 2 → (kl s8 a1 = 5) ∧ ((fI s8 a1 10 ≠ 0 → (kl s8 a0 = 11) ∧ (kl s8 (fR s8 a0 0) = 6) ∧ ck iv L h0 d 199 [vr (fR s8 a0 0), vr r9] s8 (qa fun r14 s13 => F r14 s13)) ∧ (fI s8 a1 10 = 0 → F r9 s8)))))) ∧ (fI s2 a1 1 = 3 → ck iv L h0 d 235 [vr a0, vr a1, vr a2] (uI s2 a0 3 ((fI s2 a0 3) + 1)) (qa fun r16 s15 => F r16 s15)))) ∧ (r3 ≠ 0 → (kl s2 a1 = 5) ∧ (kl s2 a0 = 11) ∧ ck iv L h0 d 232 [vr a0, vi 4, vi (fI s2 a1 0)] s2 (qa fun r20 s19 => F r20 s19))))) : ck iv L h0 (d + 1) 234 [vr a0, vr a1, vr a2, vi a3] s (qa F) := by
  show wk iv L h0 (d + 1) 234 0 [lr a0, lr a1, lr a2, li a3] [] s (qa F)
  refine w_aload_n rfl rfl ?_
  refine w_iload_n rfl rfl ?_
  obtain ⟨g1, H⟩ := H
  refine c_virt (p := a0) (as := [vi a3]) (r := []) rfl rfl rfl rfl rfl rfl g1 (wc_mono H (Nat.le_refl _) ?_)
  rintro _ s2 ⟨r3, rfl, H⟩
  show wk iv L h0 (d + 1) 234 5 [lr a0, lr a1, lr a2, li a3] [vi r3] s2 (qa F)
  refine w_if_eq rfl (fun h => ?_) (fun h => ?_)
  · replace H := H.1 h
    refine w_aload_n rfl rfl ?_
    refine w_dup rfl rfl ?_
    obtain ⟨g4, H⟩ := H
    refine c_get rfl rfl rfl g4 ?_
    refine w_iconst (n := 1) rfl rfl ?_
    obtain ⟨g5, H⟩ := H
    refine w_iadd rfl g5 ?_
    refine c_put rfl rfl rfl rfl g4 ?_
    refine w_aload_n rfl rfl ?_
    obtain ⟨g6, H⟩ := H
    refine c_get rfl rfl rfl g6 ?_
    show wk iv L h0 (d + 1) 234 32 [lr a0, lr a1, lr a2, li a3] [vi (fI s2 a1 1)] (uI s2 a0 3 ((fI s2 a0 3) + 1)) (qa F)
    refine w_iconst (n := 3) rfl rfl ?_
    refine w_icmp_ne rfl (fun h => ?_) (fun h => ?_)
    · replace H := H.1 h
      refine w_aload_n rfl rfl ?_
      refine w_aload_n rfl rfl ?_
      refine w_aload_n rfl rfl ?_
      refine w_iload_n rfl rfl ?_
      refine w_iconst (n := 1) rfl rfl ?_
      obtain ⟨g7, H⟩ := H
      refine w_iadd rfl g7 ?_
      refine c_virt (p := a0) (as := [vr a1, vr a2, vi (a3 + 1)]) (r := []) rfl rfl rfl rfl rfl rfl g4 (wc_mono H (Nat.le_refl _) ?_)
      rintro _ s8 ⟨r9, rfl, H⟩
      show wk iv L h0 (d + 1) 234 52 [lr a0, lr a1, lr a2, li a3] [vr r9] s8 (qa F)
      refine w_astore rfl rfl ?_
      refine w_aload rfl rfl ?_
      refine c_null rfl (fun h => ?_) (fun h => ?_)
      · replace H := H.1 h
        refine w_aload rfl rfl ?_
        refine w_goto rfl ?_
        exact w_aret rfl rfl ⟨_, rfl, H⟩
      · replace H := H.2 h
        refine w_aload_n rfl rfl ?_
        obtain ⟨g10, H⟩ := H
        refine c_get rfl rfl rfl g10 ?_
        refine w_if_ne rfl (fun h => ?_) (fun h => ?_)
        · replace H := H.1 h
          refine w_aload_n rfl rfl ?_
          obtain ⟨g11, H⟩ := H
          refine c_getr rfl rfl rfl g11 ?_
          refine w_aload rfl rfl ?_
          obtain ⟨g12, H⟩ := H
          refine c_virt (p := (fR s8 a0 0)) (as := [vr r9]) (r := []) rfl rfl rfl rfl rfl rfl g12 (wc_mono H (Nat.le_refl _) ?_)
          rintro _ s13 ⟨r14, rfl, H⟩
          show wk iv L h0 (d + 1) 234 80 [lr a0, lr a1, lr a2, li a3, lr r9] [vr r14] s13 (qa F)
          exact w_aret rfl rfl ⟨_, rfl, H⟩
        · replace H := H.2 h
          refine w_aload rfl rfl ?_
          refine w_goto rfl ?_
          exact w_aret rfl rfl ⟨_, rfl, H⟩
    · replace H := H.2 h
      refine w_aload_n rfl rfl ?_
      refine w_aload_n rfl rfl ?_
      refine w_aload_n rfl rfl ?_
      refine c_virt (p := a0) (as := [vr a1, vr a2]) (r := []) rfl rfl rfl rfl rfl rfl g4 (wc_mono H (Nat.le_refl _) ?_)
      rintro _ s15 ⟨r16, rfl, H⟩
      show wk iv L h0 (d + 1) 234 42 [lr a0, lr a1, lr a2, li a3] [vr r16] s15 (qa F)
      exact w_aret rfl rfl ⟨_, rfl, H⟩
  · replace H := H.2 h
    refine w_aload_n rfl rfl ?_
    refine w_iconst (n := 4) rfl rfl ?_
    refine w_aload_n rfl rfl ?_
    obtain ⟨g17, H⟩ := H
    refine c_get rfl rfl rfl g17 ?_
    obtain ⟨g18, H⟩ := H
    refine c_virt (p := a0) (as := [vi 4, vi (fI s2 a1 0)]) (r := []) rfl rfl rfl rfl rfl rfl g18 (wc_mono H (Nat.le_refl _) ?_)
    rintro _ s19 ⟨r20, rfl, H⟩
    show wk iv L h0 (d + 1) 234 17 [lr a0, lr a1, lr a2, li a3] [vr r20] s19 (qa F)
    exact w_aret rfl rfl ⟨_, rfl, H⟩

/-- HoleDesk$Worker.nameValue(LHoleDesk$Node;LHoleDesk$Seen;)LHoleDesk$Value; -/
theorem C235 {iv : List (Int × Int)} {L : Nat} {h0 : MH} {d : Nat} {s : SC} {a0 : Nat} {a1 : Nat} {a2 : Nat} {F : Nat → SC → Prop} (H : (kl s a1 = 5) ∧ ((fI s a1 10 ≠ 1 → (kl s a0 = 11) ∧ ck iv L h0 d 229 [vr a0, vr a2, vi (fI s a1 4)] s (qa fun r4 s3 => ((r4 ≠ 2 → (kl s3 a1 = 5) ∧ ((fI s3 a1 10 ≠ 0 → (kl s3 a0 = 11) ∧ (kl s3 (fR s3 a0 0) = 6) ∧ ck iv L h0 d 199 [vr (fR s3 a0 0), vr r4] s3 (qa fun r9 s8 => F r9 s8)) ∧ (fI s3 a1 10 = 0 → F r4 s3))) ∧ (r4 = 2 → (kl s3 a0 = 11) ∧ (kl s3 a1 = 5) ∧ (kl s3 (fR s3 a0 0) = 6) ∧ ck iv L h0 d 196 [vr (fR s3 a0 0), vi 5, vi (fI s3 a1 4)] s3 (qa fun r14 s13 => F r14 s13))))) ∧ (fI s a1 10 = 1 → (kl s a0 = 11) ∧ (kl s (fR s a0 0) = 6) ∧ ck iv L h0 d 196 [vr (fR s a0 0), vi 5, vi (fI s a1 4)] s (qa fun r18 s17 => F r18 s17)))) : ck iv L h0 (d + 1) 235 [vr a0, vr a1, vr a2] s (qa F) := by
  show wk iv L h0 (d + 1) 235 0 [lr a0, lr a1, lr a2] [] s (qa F)
  refine w_aload_n rfl rfl ?_
  obtain ⟨g1, H⟩ := H
  refine c_get rfl rfl rfl g1 ?_
  refine w_iconst (n := 1) rfl rfl ?_
  refine w_icmp_ne rfl (fun h => ?_) (fun h => ?_)
  · replace H := H.1 h
    refine w_aload_n rfl rfl ?_
    refine w_aload_n rfl rfl ?_
    refine w_aload_n rfl rfl ?_
    refine c_get rfl rfl rfl g1 ?_
    obtain ⟨g2, H⟩ := H
    refine c_virt (p := a0) (as := [vr a2, vi (fI s a1 4)]) (r := []) rfl rfl rfl rfl rfl rfl g2 (wc_mono H (Nat.le_refl _) ?_)
    rintro _ s3 ⟨r4, rfl, H⟩
    show wk iv L h0 (d + 1) 235 21 [lr a0, lr a1, lr a2] [vr r4] s3 (qa F)
    refine w_astore_n rfl rfl ?_
    refine w_aload_n rfl rfl ?_
    refine c_nonnull rfl (fun h => ?_) (fun h => ?_)
    · replace H := H.1 h
      refine w_aload_n rfl rfl ?_
      obtain ⟨g5, H⟩ := H
      refine c_get rfl rfl rfl g5 ?_
      refine w_if_ne rfl (fun h => ?_) (fun h => ?_)
      · replace H := H.1 h
        refine w_aload_n rfl rfl ?_
        obtain ⟨g6, H⟩ := H
        refine c_getr rfl rfl rfl g6 ?_
        refine w_aload_n rfl rfl ?_
        obtain ⟨g7, H⟩ := H
        refine c_virt (p := (fR s3 a0 0)) (as := [vr r4]) (r := []) rfl rfl rfl rfl rfl rfl g7 (wc_mono H (Nat.le_refl _) ?_)
        rintro _ s8 ⟨r9, rfl, H⟩
        show wk iv L h0 (d + 1) 235 58 [lr a0, lr a1, lr a2, lr r4] [vr r9] s8 (qa F)
        exact w_aret rfl rfl ⟨_, rfl, H⟩
      · replace H := H.2 h
        refine w_aload_n rfl rfl ?_
        refine w_goto rfl ?_
        exact w_aret rfl rfl ⟨_, rfl, H⟩
    · replace H := H.2 h
      refine w_aload_n rfl rfl ?_
      obtain ⟨g10, H⟩ := H
      refine c_getr rfl rfl rfl g10 ?_
      refine w_iconst (n := 5) rfl rfl ?_
      refine w_aload_n rfl rfl ?_
      obtain ⟨g11, H⟩ := H
      refine c_get rfl rfl rfl g11 ?_
      obtain ⟨g12, H⟩ := H
      refine c_virt (p := (fR s3 a0 0)) (as := [vi 5, vi (fI s3 a1 4)]) (r := []) rfl rfl rfl rfl rfl rfl g12 (wc_mono H (Nat.le_refl _) ?_)
      rintro _ s13 ⟨r14, rfl, H⟩
      show wk iv L h0 (d + 1) 235 38 [lr a0, lr a1, lr a2, lr r4] [vr r14] s13 (qa F)
      exact w_aret rfl rfl ⟨_, rfl, H⟩
  · replace H := H.2 h
    refine w_null rfl ?_
    refine w_goto rfl ?_
    refine w_astore_n rfl rfl ?_
    refine w_aload_n rfl rfl ?_
    refine c_nonnull rfl (fun h => absurd h (by decide)) (fun _ => ?_)
    refine w_aload_n rfl rfl ?_
    obtain ⟨g15, H⟩ := H
    refine c_getr rfl rfl rfl g15 ?_
    refine w_iconst (n := 5) rfl rfl ?_
    refine w_aload_n rfl rfl ?_
    refine c_get rfl rfl rfl g1 ?_
    obtain ⟨g16, H⟩ := H
    refine c_virt (p := (fR s a0 0)) (as := [vi 5, vi (fI s a1 4)]) (r := []) rfl rfl rfl rfl rfl rfl g16 (wc_mono H (Nat.le_refl _) ?_)
    rintro _ s17 ⟨r18, rfl, H⟩
    show wk iv L h0 (d + 1) 235 38 [lr a0, lr a1, lr a2, lr 2] [vr r18] s17 (qa F)
    exact w_aret rfl rfl ⟨_, rfl, H⟩

/-- HoleDesk$Worker.done(LHoleDesk$Node;LHoleDesk$Seen;I)LHoleDesk$Value; -/
theorem C236 {iv : List (Int × Int)} {L : Nat} {h0 : MH} {d : Nat} {s : SC} {a0 : Nat} {a1 : Nat} {a2 : Nat} {a3 : Int} {F : Nat → SC → Prop} (H : (kl s a1 = 5) ∧ ((fI s a1 1 = 0 → (kl s a0 = 11) ∧ (kl s (fR s a0 0) = 6) ∧ ck iv L h0 d 197 [vr (fR s a0 0), vi 4, vr a1, vr a2] s (qa fun r5 s4 => F r5 s4)) ∧ (fI s a1 1 = 1 → (kl s a0 = 11) ∧ (kl s (fR s a0 0) = 6) ∧ ck iv L h0 d 196 [vr (fR s a0 0), vi 0, vi (fI s a1 4)] s (qa fun r9 s8 => F r9 s8)) ∧ (fI s a1 1 = 2 → (kl s a0 = 11) ∧ (kl s (fR s a0 0) = 6) ∧ ck iv L h0 d 196 [vr (fR s a0 0), vi 1, vi (fI s a1 4)] s (qa fun r13 s12 => F r13 s12)) ∧ (fI s a1 1 = 3 ∨ fI s a1 1 = 4 ∨ fI s a1 1 = 5 ∨ fI s a1 1 = 6 ∨ fI s a1 1 = 7 ∨ fI s a1 1 < 0 ∨ 8 < fI s a1 1 → (kl s (fR s a1 3) = 103) ∧ ((0 : Int) ≤ 0 ∧ 0 < le s (fR s a1 3)) ∧ (kl s a0 = 11) ∧ ck iv L h0 d 234 [vr a0, vr (aR s (fR s a1 3) 0), vr a2, vi a3] s (qa fun r18 s17 => ((r18 = 2 → F r18 s17) ∧ (r18 ≠ 2 → (kl s17 a1 = 5) ∧ ((fI s17 a1 1 ≠ 15 → ((fI s17 a1 1 ≠ 10 → ck iv L h0 d 237 [vi (fI s17 a1 1)] s17 (qi fun r21 s20 => ((r21 = 0 → (kl s20 a0 = 11) ∧ ck iv L h0 d 239 [vr a0, vr a1, vr r18, vr 2, vr a2, vi a3] s20 (qa fun r24 s23 => F r24 s23)) ∧ (r21 ≠ 0 → (kl s20 a1 = 5) ∧ (kl s20 (fR s20 a1 3) = 103) ∧ ((0 : Int) ≤ 1 ∧ 1 < le s20 (fR s20 a1 3)) ∧ (kl s20 a0 = 11) ∧ ck iv L h0 d 234 [vr a0, vr (aR s20 (fR s20 a1 3) 1), vr a2, vi a3] s20 (qa fun r30 s29 => ((r30 ≠ 2 → (kl s29 a0 = 11) ∧ ck iv L h0 d 239 [vr a0, vr a1, vr r18, vr r30, vr a2, vi a3] s29 (qa fun r33 s32 => F r33 s32)) ∧ (r30 = 2 → F 2 s29))))))) ∧ (fI s17 a1 1 = 10 → (kl s17 (fR s17 a1 3) = 103) ∧ ((0 : Int) ≤ 1 ∧ 1 < le s17 (fR s17 a1 3)) ∧ (kl s17 a0 = 11) ∧ (kl s17 (fR s17 a0 0) = 6) ∧ ck iv L h0 d 201 [vr (fR s17 a0 0), vi (fI s17 a1 4), vr r18, vr a2] s17 (qa fun r39 s38 => (kl s38 a0 = 11) ∧ ck iv L h0 d 234 [vr a0, vr (aR s17 (fR s17 a1 3) 1), vr r39, vi a3] s38 (qa fun r42 s41 => F r42 s41))))) ∧ (fI s17 a1 1 = 15 → F r18 s17)))))) ∧ (fI s a1 1 = 8 → (kl s a0 = 11) ∧ (kl s (fR s a0 0) = 6) ∧ ck iv L h0 d 197 [vr (fR s a0 0), vi 2, vr a1, vr a2] s (qa fun r46 s45 => F r46 s45)))) : ck iv L h0 (d + 1) 236 [vr a0, vr a1, vr a2, vi a3] s (qa F) := by
  show wk iv L h0 (d + 1) 236 0 [lr a0, lr a1, lr a2, li a3] [] s (qa F)
  refine w_aload_n rfl rfl ?_
  obtain ⟨g1, H⟩ := H
  refine c_get rfl rfl rfl g1 ?_
  have J56 : (fI s a1 1 = 0) → wk iv L h0 (d + 1) 236 56 [lr a0, lr a1, lr a2, li a3] [] s (qa F) := fun h => by
    replace H := H.1 h
    refine w_aload_n rfl rfl ?_
    obtain ⟨g2, H⟩ := H
    refine c_getr rfl rfl rfl g2 ?_
    refine w_iconst (n := 4) rfl rfl ?_
    refine w_aload_n rfl rfl ?_
    refine w_aload_n rfl rfl ?_
    obtain ⟨g3, H⟩ := H
    refine c_virt (p := (fR s a0 0)) (as := [vi 4, vr a1, vr a2]) (r := []) rfl rfl rfl rfl rfl rfl g3 (wc_mono H (Nat.le_refl _) ?_)
    rintro _ s4 ⟨r5, rfl, H⟩
    show wk iv L h0 (d + 1) 236 66 [lr a0, lr a1, lr a2, li a3] [vr r5] s4 (qa F)
    exact w_aret rfl rfl ⟨_, rfl, H⟩
  have J67 : (fI s a1 1 = 1) → wk iv L h0 (d + 1) 236 67 [lr a0, lr a1, lr a2, li a3] [] s (qa F) := fun h => by
    replace H := H.2.1 h
    refine w_aload_n rfl rfl ?_
    obtain ⟨g6, H⟩ := H
    refine c_getr rfl rfl rfl g6 ?_
    refine w_iconst (n := 0) rfl rfl ?_
    refine w_aload_n rfl rfl ?_
    refine c_get rfl rfl rfl g1 ?_
    obtain ⟨g7, H⟩ := H
    refine c_virt (p := (fR s a0 0)) (as := [vi 0, vi (fI s a1 4)]) (r := []) rfl rfl rfl rfl rfl rfl g7 (wc_mono H (Nat.le_refl _) ?_)
    rintro _ s8 ⟨r9, rfl, H⟩
    show wk iv L h0 (d + 1) 236 79 [lr a0, lr a1, lr a2, li a3] [vr r9] s8 (qa F)
    exact w_aret rfl rfl ⟨_, rfl, H⟩
  have J80 : (fI s a1 1 = 2) → wk iv L h0 (d + 1) 236 80 [lr a0, lr a1, lr a2, li a3] [] s (qa F) := fun h => by
    replace H := H.2.2.1 h
    refine w_aload_n rfl rfl ?_
    obtain ⟨g10, H⟩ := H
    refine c_getr rfl rfl rfl g10 ?_
    refine w_iconst (n := 1) rfl rfl ?_
    refine w_aload_n rfl rfl ?_
    refine c_get rfl rfl rfl g1 ?_
    obtain ⟨g11, H⟩ := H
    refine c_virt (p := (fR s a0 0)) (as := [vi 1, vi (fI s a1 4)]) (r := []) rfl rfl rfl rfl rfl rfl g11 (wc_mono H (Nat.le_refl _) ?_)
    rintro _ s12 ⟨r13, rfl, H⟩
    show wk iv L h0 (d + 1) 236 92 [lr a0, lr a1, lr a2, li a3] [vr r13] s12 (qa F)
    exact w_aret rfl rfl ⟨_, rfl, H⟩
  have J104 : (fI s a1 1 = 3 ∨ fI s a1 1 = 4 ∨ fI s a1 1 = 5 ∨ fI s a1 1 = 6 ∨ fI s a1 1 = 7 ∨ fI s a1 1 < 0 ∨ 8 < fI s a1 1) → wk iv L h0 (d + 1) 236 104 [lr a0, lr a1, lr a2, li a3] [] s (qa F) := fun h => by
    replace H := H.2.2.2.1 h
    refine w_aload_n rfl rfl ?_
    refine w_aload_n rfl rfl ?_
    refine c_getr rfl rfl rfl g1 ?_
    refine w_iconst (n := 0) rfl rfl ?_
    obtain ⟨g14, H⟩ := H
    obtain ⟨g15, H⟩ := H
    refine c_aald (t := 3) rfl ⟨g14, by decide, by decide⟩ g15 ?_
    refine w_aload_n rfl rfl ?_
    refine w_iload_n rfl rfl ?_
    obtain ⟨g16, H⟩ := H
    refine c_virt (p := a0) (as := [vr (aR s (fR s a1 3) 0), vr a2, vi a3]) (r := []) rfl rfl rfl rfl rfl rfl g16 (wc_mono H (Nat.le_refl _) ?_)
    rintro _ s17 ⟨r18, rfl, H⟩
    show wk iv L h0 (d + 1) 236 116 [lr a0, lr a1, lr a2, li a3] [vr r18] s17 (qa F)
    refine w_astore rfl rfl ?_
    refine w_aload rfl rfl ?_
    refine c_null rfl (fun h => ?_) (fun h => ?_)
    · replace H := H.1 h
      refine w_aload rfl rfl ?_
      exact w_aret rfl rfl ⟨_, rfl, H⟩
    · replace H := H.2 h
      refine w_aload_n rfl rfl ?_
      obtain ⟨g19, H⟩ := H
      refine c_get rfl rfl rfl g19 ?_
      refine w_bipush (n := 15) rfl rfl rfl ?_
      refine w_icmp_ne rfl (fun h => ?_) (fun h => ?_)
      · replace H := H.1 h
        refine w_aload_n rfl rfl ?_
        refine c_get rfl rfl rfl g19 ?_
        refine w_bipush (n := 10) rfl rfl rfl ?_
        refine w_icmp_ne rfl (fun h => ?_) (fun h => ?_)
        · replace H := H.1 h
          refine w_null rfl ?_
          refine w_astore rfl rfl ?_
          refine w_aload_n rfl rfl ?_
          refine c_get rfl rfl rfl g19 ?_
          refine w_static (as := [vi (fI s17 a1 1)]) (r := []) rfl rfl rfl rfl rfl (wc_mono H (Nat.le_refl _) ?_)
          rintro _ s20 ⟨r21, rfl, H⟩
          show wk iv L h0 (d + 1) 236 180 [lr a0, lr a1, lr a2, li a3, lr r18, lr 2] [vi r21] s20 (qa F)
          refine w_if_eq rfl (fun h => ?_) (fun h => ?_)
          · replace H := H.1 h
            refine w_aload_n rfl rfl ?_
            refine w_aload_n rfl rfl ?_
            refine w_aload rfl rfl ?_
            refine w_aload rfl rfl ?_
            refine w_aload_n rfl rfl ?_
            refine w_iload_n rfl rfl ?_
            obtain ⟨g22, H⟩ := H
            refine c_virt (p := a0) (as := [vr a1, vr r18, vr 2, vr a2, vi a3]) (r := []) rfl rfl rfl rfl rfl rfl g22 (wc_mono H (Nat.le_refl _) ?_)
            rintro _ s23 ⟨r24, rfl, H⟩
            show wk iv L h0 (d + 1) 236 215 [lr a0, lr a1, lr a2, li a3, lr r18, lr 2] [vr r24] s23 (qa F)
            exact w_aret rfl rfl ⟨_, rfl, H⟩
          · replace H := H.2 h
            refine w_aload_n rfl rfl ?_
            refine w_aload_n rfl rfl ?_
            obtain ⟨g25, H⟩ := H
            refine c_getr rfl rfl rfl g25 ?_
            refine w_iconst (n := 1) rfl rfl ?_
            obtain ⟨g26, H⟩ := H
            obtain ⟨g27, H⟩ := H
            refine c_aald (t := 3) rfl ⟨g26, by decide, by decide⟩ g27 ?_
            refine w_aload_n rfl rfl ?_
            refine w_iload_n rfl rfl ?_
            obtain ⟨g28, H⟩ := H
            refine c_virt (p := a0) (as := [vr (aR s20 (fR s20 a1 3) 1), vr a2, vi a3]) (r := []) rfl rfl rfl rfl rfl rfl g28 (wc_mono H (Nat.le_refl _) ?_)
            rintro _ s29 ⟨r30, rfl, H⟩
            show wk iv L h0 (d + 1) 236 195 [lr a0, lr a1, lr a2, li a3, lr r18, lr 2] [vr r30] s29 (qa F)
            refine w_astore rfl rfl ?_
            refine w_aload rfl rfl ?_
            refine c_nonnull rfl (fun h => ?_) (fun h => ?_)
            · replace H := H.1 h
              refine w_aload_n rfl rfl ?_
              refine w_aload_n rfl rfl ?_
              refine w_aload rfl rfl ?_
              refine w_aload rfl rfl ?_
              refine w_aload_n rfl rfl ?_
              refine w_iload_n rfl rfl ?_
              obtain ⟨g31, H⟩ := H
              refine c_virt (p := a0) (as := [vr a1, vr r18, vr r30, vr a2, vi a3]) (r := []) rfl rfl rfl rfl rfl rfl g31 (wc_mono H (Nat.le_refl _) ?_)
              rintro _ s32 ⟨r33, rfl, H⟩
              show wk iv L h0 (d + 1) 236 215 [lr a0, lr a1, lr a2, li a3, lr r18, lr r30] [vr r33] s32 (qa F)
              exact w_aret rfl rfl ⟨_, rfl, H⟩
            · replace H := H.2 h
              refine w_null rfl ?_
              exact w_aret rfl rfl ⟨_, rfl, H⟩
        · replace H := H.2 h
          refine w_aload_n rfl rfl ?_
          refine w_aload_n rfl rfl ?_
          refine c_getr rfl rfl rfl g19 ?_
          refine w_iconst (n := 1) rfl rfl ?_
          obtain ⟨g34, H⟩ := H
          obtain ⟨g35, H⟩ := H
          refine c_aald (t := 3) rfl ⟨g34, by decide, by decide⟩ g35 ?_
          refine w_aload_n rfl rfl ?_
          obtain ⟨g36, H⟩ := H
          refine c_getr rfl rfl rfl g36 ?_
          refine w_aload_n rfl rfl ?_
          refine c_get rfl rfl rfl g19 ?_
          refine w_aload rfl rfl ?_
          refine w_aload_n rfl rfl ?_
          obtain ⟨g37, H⟩ := H
          refine c_virt (p := (fR s17 a0 0)) (as := [vi (fI s17 a1 4), vr r18, vr a2]) (r := [vr (aR s17 (fR s17 a1 3) 1), vr a0]) rfl rfl rfl rfl rfl rfl g37 (wc_mono H (Nat.le_refl _) ?_)
          rintro _ s38 ⟨r39, rfl, H⟩
          show wk iv L h0 (d + 1) 236 165 [lr a0, lr a1, lr a2, li a3, lr r18] [vr r39, vr (aR s17 (fR s17 a1 3) 1), vr a0] s38 (qa F)
          refine w_iload_n rfl rfl ?_
          obtain ⟨g40, H⟩ := H
          refine c_virt (p := a0) (as := [vr (aR s17 (fR s17 a1 3) 1), vr r39, vi a3]) (r := []) rfl rfl rfl rfl rfl rfl g40 (wc_mono H (Nat.le_refl _) ?_)
          rintro _ s41 ⟨r42, rfl, H⟩
          show wk iv L h0 (d + 1) 236 169 [lr a0, lr a1, lr a2, li a3, lr r18] [vr r42] s41 (qa F)
          exact w_aret rfl rfl ⟨_, rfl, H⟩
      · replace H := H.2 h
        refine w_aload rfl rfl ?_
        exact w_aret rfl rfl ⟨_, rfl, H⟩
  have J93 : (fI s a1 1 = 8) → wk iv L h0 (d + 1) 236 93 [lr a0, lr a1, lr a2, li a3] [] s (qa F) := fun h => by
    replace H := H.2.2.2.2 h
    refine w_aload_n rfl rfl ?_
    obtain ⟨g43, H⟩ := H
    refine c_getr rfl rfl rfl g43 ?_
    refine w_iconst (n := 2) rfl rfl ?_
    refine w_aload_n rfl rfl ?_
    refine w_aload_n rfl rfl ?_
    obtain ⟨g44, H⟩ := H
    refine c_virt (p := (fR s a0 0)) (as := [vi 2, vr a1, vr a2]) (r := []) rfl rfl rfl rfl rfl rfl g44 (wc_mono H (Nat.le_refl _) ?_)
    rintro _ s45 ⟨r46, rfl, H⟩
    show wk iv L h0 (d + 1) 236 103 [lr a0, lr a1, lr a2, li a3] [vr r46] s45 (qa F)
    exact w_aret rfl rfl ⟨_, rfl, H⟩
  refine w_tsw (td := 104) (ts := [56, 67, 80, 104, 104, 104, 104, 104, 93]) rfl rfl rfl rfl rfl rfl (fun h => J104 (by omega)) ?_
  exact swA_c (fun h => J56 (by omega)) (swA_c (fun h => J67 (by omega)) (swA_c (fun h => J80 (by omega)) (swA_c (fun h => J104 (by omega)) (swA_c (fun h => J104 (by omega)) (swA_c (fun h => J104 (by omega)) (swA_c (fun h => J104 (by omega)) (swA_c (fun h => J104 (by omega)) (swA_c (fun h => J93 (by omega)) (swA_n)))))))))

/-- HoleDesk$Worker.takesTwo(I)Z -/
theorem C237 {iv : List (Int × Int)} {L : Nat} {h0 : MH} {d : Nat} {s : SC} {a1 : Int} {F : Int → SC → Prop} (H : ((a1 = 9 → F 1 s) ∧ (a1 ≠ 9 → ((a1 = 12 → F 1 s) ∧ (a1 ≠ 12 → ck iv L h0 d 238 [vi a1] s (qi fun r2 s1 => ((r2 = 0 → F 0 s1) ∧ (r2 ≠ 0 → F 1 s1)))))))) : ck iv L h0 (d + 1) 237 [vi a1] s (qi F) := by
  show wk iv L h0 (d + 1) 237 0 [li a1] [] s (qi F)
  refine w_iload_n rfl rfl ?_
  refine w_bipush (n := 9) rfl rfl rfl ?_
  refine w_icmp_eq rfl (fun h => ?_) (fun h => ?_)
  · replace H := H.1 h
    refine w_iconst (n := 1) rfl rfl ?_
    refine w_goto rfl ?_
    exact w_iretz rfl rfl (by decide) ⟨_, rfl, H⟩
  · replace H := H.2 h
    refine w_iload_n rfl rfl ?_
    refine w_bipush (n := 12) rfl rfl rfl ?_
    refine w_icmp_eq rfl (fun h => ?_) (fun h => ?_)
    · replace H := H.1 h
      refine w_iconst (n := 1) rfl rfl ?_
      refine w_goto rfl ?_
      exact w_iretz rfl rfl (by decide) ⟨_, rfl, H⟩
    · replace H := H.2 h
      refine w_iload_n rfl rfl ?_
      refine w_static (as := [vi a1]) (r := []) rfl rfl rfl rfl rfl (wc_mono H (Nat.le_refl _) ?_)
      rintro _ s1 ⟨r2, rfl, H⟩
      show wk iv L h0 (d + 1) 237 16 [li a1] [vi r2] s1 (qi F)
      refine w_if_eq rfl (fun h => ?_) (fun h => ?_)
      · replace H := H.1 h
        refine w_iconst (n := 0) rfl rfl ?_
        exact w_iretz rfl rfl (by decide) ⟨_, rfl, H⟩
      · replace H := H.2 h
        refine w_iconst (n := 1) rfl rfl ?_
        refine w_goto rfl ?_
        exact w_iretz rfl rfl (by decide) ⟨_, rfl, H⟩

/-- HoleDesk$Worker.isReckoned(I)Z -/
theorem C238 {iv : List (Int × Int)} {L : Nat} {h0 : MH} {d : Nat} {s : SC} {a1 : Int} {F : Int → SC → Prop} (H : ((a1 < 4 → F 0 s) ∧ (4 ≤ a1 → ((7 < a1 → F 0 s) ∧ (a1 ≤ 7 → F 1 s))))) : ck iv L h0 d 238 [vi a1] s (qi F) := by
  show wk iv L h0 d 238 0 [li a1] [] s (qi F)
  refine w_iload_n rfl rfl ?_
  refine w_iconst (n := 4) rfl rfl ?_
  refine w_icmp_lt rfl (fun h => ?_) (fun h => ?_)
  · replace H := H.1 h
    refine w_iconst (n := 0) rfl rfl ?_
    exact w_iretz rfl rfl (by decide) ⟨_, rfl, H⟩
  · replace H := H.2 h
    refine w_iload_n rfl rfl ?_
    refine w_bipush (n := 7) rfl rfl rfl ?_
    refine w_icmp_gt rfl (fun h => ?_) (fun h => ?_)
    · replace H := H.1 h
      refine w_iconst (n := 0) rfl rfl ?_
      exact w_iretz rfl rfl (by decide) ⟨_, rfl, H⟩
    · replace H := H.2 h
      refine w_iconst (n := 1) rfl rfl ?_
      refine w_goto rfl ?_
      exact w_iretz rfl rfl (by decide) ⟨_, rfl, H⟩

/-- HoleDesk$Worker.act(LHoleDesk$Node;LHoleDesk$Value;LHoleDesk$Value;LHoleDesk$Seen;I)LHoleDesk$Value; -/
theorem C239 {iv : List (Int × Int)} {L : Nat} {h0 : MH} {d : Nat} {s : SC} {a0 : Nat} {a1 : Nat} {a2 : Nat} {a3 : Nat} {a4 : Nat} {a5 : Int} {F : Nat → SC → Prop} (H : (kl s a2 = 10) ∧ ck iv L h0 d 225 [vr a2] s (qi fun r3 s2 => (kl s2 a1 = 5) ∧ ((fI s2 a1 1 = 9 → (kl s2 a2 = 10) ∧ ((fI s2 a2 0 ≠ 2 → ((r3 = 0 → (kl s2 a0 = 11) ∧ ck iv L h0 d 232 [vr a0, vi 3, vi (fI s2 a1 0)] s2 (qa fun r8 s7 => F r8 s7)) ∧ (r3 ≠ 0 → (kl s2 a0 = 11) ∧ ((fI s2 a1 1 ≠ 11 → (kl s2 (fR s2 a0 0) = 6) ∧ ck iv L h0 d 200 [vr (fR s2 a0 0), vr a1, vr a2, vr a3, vr 2] s2 (qa fun r12 s11 => F r12 s11)) ∧ (fI s2 a1 1 = 11 → (kl s2 (fR s2 a0 0) = 6) ∧ ck iv L h0 d 200 [vr (fR s2 a0 0), vr a1, vr a2, vr a3, vr a4] s2 (qa fun r15 s14 => F r15 s14)))))) ∧ (fI s2 a2 0 = 2 → (kl s2 (fR s2 a2 2) = 5) ∧ (kl s2 (fR s2 (fR s2 a2 2) 3) = 103) ∧ ((0 : Int) ≤ 0 ∧ 0 < le s2 (fR s2 (fR s2 a2 2) 3)) ∧ (kl s2 a0 = 11) ∧ (kl s2 (fR s2 a0 0) = 6) ∧ ck iv L h0 d 201 [vr (fR s2 a0 0), vi (fI s2 (fR s2 a2 2) 4), vr a3, vr (fR s2 a2 5)] s2 (qa fun r22 s21 => (kl s21 a0 = 11) ∧ ck iv L h0 d 234 [vr a0, vr (aR s2 (fR s2 (fR s2 a2 2) 3) 0), vr r22, vi a5] s21 (qa fun r25 s24 => F r25 s24))))) ∧ (fI s2 a1 1 = 10 ∨ fI s2 a1 1 < 9 ∨ 14 < fI s2 a1 1 → ((a3 = 2 → ((r3 ≠ 0 → (kl s2 a0 = 11) ∧ ((fI s2 a1 1 ≠ 11 → (kl s2 (fR s2 a0 0) = 6) ∧ ck iv L h0 d 200 [vr (fR s2 a0 0), vr a1, vr a2, vr a3, vr 2] s2 (qa fun r29 s28 => F r29 s28)) ∧ (fI s2 a1 1 = 11 → (kl s2 (fR s2 a0 0) = 6) ∧ ck iv L h0 d 200 [vr (fR s2 a0 0), vr a1, vr a2, vr a3, vr a4] s2 (qa fun r32 s31 => F r32 s31)))) ∧ (r3 = 0 → ((a3 = 2 → (kl s2 a0 = 11) ∧ ck iv L h0 d 232 [vr a0, vi 3, vi (fI s2 a1 0)] s2 (qa fun r35 s34 => F r35 s34)) ∧ (a3 ≠ 2 → (kl s2 a3 = 10) ∧ ck iv L h0 d 225 [vr a3] s2 (qi fun r38 s37 => ((r38 = 0 → (kl s37 a1 = 5) ∧ (kl s37 a0 = 11) ∧ ck iv L h0 d 232 [vr a0, vi 3, vi (fI s37 a1 0)] s37 (qa fun r42 s41 => F r42 s41)) ∧ (r38 ≠ 0 → (kl s37 a0 = 11) ∧ (kl s37 a1 = 5) ∧ ((fI s37 a1 1 ≠ 11 → (kl s37 (fR s37 a0 0) = 6) ∧ ck iv L h0 d 200 [vr (fR s37 a0 0), vr a1, vr a2, vr a3, vr 2] s37 (qa fun r47 s46 => F r47 s46)) ∧ (fI s37 a1 1 = 11 → (kl s37 (fR s37 a0 0) = 6) ∧ ck iv L h0 d 200 [vr (fR s37 a0 0), vr a1, vr a2, vr a3, vr a4] s37 (qa fun r50 s49 => F r50 s49))))))))))) ∧ (a3 ≠ 2 → (kl s2 a2 = 10) ∧ ((fI s2 a2 0 ≠ 0 → ((r3 ≠ 0 → (kl s2 a0 = 11) ∧ ((fI s2 a1 1 ≠ 11 → (kl s2 (fR s2 a0 0) = 6) ∧ ck iv L h0 d 200 [vr (fR s2 a0 0), vr a1, vr a2, vr a3, vr 2] s2 (qa fun r55 s54 => F r55 s54)) ∧ (fI s2 a1 1 = 11 → (kl s2 (fR s2 a0 0) = 6) ∧ ck iv L h0 d 200 [vr (fR s2 a0 0), vr a1, vr a2, vr a3, vr a4] s2 (qa fun r58 s57 => F r58 s57)))) ∧ (r3 = 0 → ((a3 = 2 → (kl s2 a0 = 11) ∧ ck iv L h0 d 232 [vr a0, vi 3, vi (fI s2 a1 0)] s2 (qa fun r61 s60 => F r61 s60)) ∧ (a3 ≠ 2 → (kl s2 a3 = 10) ∧ ck iv L h0 d 225 [vr a3] s2 (qi fun r64 s63 => ((r64 = 0 → (kl s63 a1 = 5) ∧ (kl s63 a0 = 11) ∧ ck iv L h0 d 232 [vr a0, vi 3, vi (fI s63 a1 0)] s63 (qa fun r68 s67 => F r68 s67)) ∧ (r64 ≠ 0 → (kl s63 a0 = 11) ∧ (kl s63 a1 = 5) ∧ ((fI s63 a1 1 ≠ 11 → (kl s63 (fR s63 a0 0) = 6) ∧ ck iv L h0 d 200 [vr (fR s63 a0 0), vr a1, vr a2, vr a3, vr 2] s63 (qa fun r73 s72 => F r73 s72)) ∧ (fI s63 a1 1 = 11 → (kl s63 (fR s63 a0 0) = 6) ∧ ck iv L h0 d 200 [vr (fR s63 a0 0), vr a1, vr a2, vr a3, vr a4] s63 (qa fun r76 s75 => F r76 s75))))))))))) ∧ (fI s2 a2 0 = 0 → (kl s2 a3 = 10) ∧ ((fI s2 a3 0 ≠ 0 → ((r3 ≠ 0 → (kl s2 a0 = 11) ∧ ((fI s2 a1 1 ≠ 11 → (kl s2 (fR s2 a0 0) = 6) ∧ ck iv L h0 d 200 [vr (fR s2 a0 0), vr a1, vr a2, vr a3, vr 2] s2 (qa fun r81 s80 => F r81 s80)) ∧ (fI s2 a1 1 = 11 → (kl s2 (fR s2 a0 0) = 6) ∧ ck iv L h0 d 200 [vr (fR s2 a0 0), vr a1, vr a2, vr a3, vr a4] s2 (qa fun r84 s83 => F r84 s83)))) ∧ (r3 = 0 → ((a3 = 2 → (kl s2 a0 = 11) ∧ ck iv L h0 d 232 [vr a0, vi 3, vi (fI s2 a1 0)] s2 (qa fun r87 s86 => F r87 s86)) ∧ (a3 ≠ 2 → ck iv L h0 d 225 [vr a3] s2 (qi fun r89 s88 => ((r89 = 0 → (kl s88 a1 = 5) ∧ (kl s88 a0 = 11) ∧ ck iv L h0 d 232 [vr a0, vi 3, vi (fI s88 a1 0)] s88 (qa fun r93 s92 => F r93 s92)) ∧ (r89 ≠ 0 → (kl s88 a0 = 11) ∧ (kl s88 a1 = 5) ∧ ((fI s88 a1 1 ≠ 11 → (kl s88 (fR s88 a0 0) = 6) ∧ ck iv L h0 d 200 [vr (fR s88 a0 0), vr a1, vr a2, vr a3, vr 2] s88 (qa fun r98 s97 => F r98 s97)) ∧ (fI s88 a1 1 = 11 → (kl s88 (fR s88 a0 0) = 6) ∧ ck iv L h0 d 200 [vr (fR s88 a0 0), vr a1, vr a2, vr a3, vr a4] s88 (qa fun r101 s100 => F r101 s100))))))))))) ∧ (fI s2 a3 0 = 0 → (kl s2 a0 = 11) ∧ ck iv L h0 d 240 [vr a0, vr a1, vi (fI s2 a2 1), vi (fI s2 a3 1)] s2 (qa fun r104 s103 => F r104 s103)))))))) ∧ (fI s2 a1 1 = 11 → (kl s2 a2 = 10) ∧ ((fI s2 a2 0 ≠ 1 → ((r3 = 0 → (kl s2 a0 = 11) ∧ ck iv L h0 d 232 [vr a0, vi 3, vi (fI s2 a1 0)] s2 (qa fun r108 s107 => F r108 s107)) ∧ (r3 ≠ 0 → (kl s2 a0 = 11) ∧ ((fI s2 a1 1 ≠ 11 → (kl s2 (fR s2 a0 0) = 6) ∧ ck iv L h0 d 200 [vr (fR s2 a0 0), vr a1, vr a2, vr a3, vr 2] s2 (qa fun r112 s111 => F r112 s111)) ∧ (fI s2 a1 1 = 11 → (kl s2 (fR s2 a0 0) = 6) ∧ ck iv L h0 d 200 [vr (fR s2 a0 0), vr a1, vr a2, vr a3, vr a4] s2 (qa fun r115 s114 => F r115 s114)))))) ∧ (fI s2 a2 0 = 1 → ((fI s2 a2 1 ≠ 1 → (kl s2 (fR s2 a1 3) = 103) ∧ ((0 : Int) ≤ 2 ∧ 2 < le s2 (fR s2 a1 3)) ∧ (kl s2 a0 = 11) ∧ ck iv L h0 d 234 [vr a0, vr (aR s2 (fR s2 a1 3) 2), vr a4, vi a5] s2 (qa fun r120 s119 => F r120 s119)) ∧ (fI s2 a2 1 = 1 → (kl s2 (fR s2 a1 3) = 103) ∧ ((0 : Int) ≤ 1 ∧ 1 < le s2 (fR s2 a1 3)) ∧ (kl s2 a0 = 11) ∧ ck iv L h0 d 234 [vr a0, vr (aR s2 (fR s2 a1 3) 1), vr a4, vi a5] s2 (qa fun r125 s124 => F r125 s124)))))) ∧ (fI s2 a1 1 = 12 → ((a3 ≠ 2 → (kl s2 a0 = 11) ∧ (kl s2 (fR s2 a0 0) = 6) ∧ ck iv L h0 d 198 [vr (fR s2 a0 0), vr a2, vr a3] s2 (qa fun r129 s128 => F r129 s128)) ∧ (a3 = 2 → F 2 s2))) ∧ (fI s2 a1 1 = 13 ∨ fI s2 a1 1 = 14 → (kl s2 a2 = 10) ∧ ((fI s2 a2 0 ≠ 3 → ((r3 = 0 → (kl s2 a0 = 11) ∧ ck iv L h0 d 232 [vr a0, vi 3, vi (fI s2 a1 0)] s2 (qa fun r133 s132 => F r133 s132)) ∧ (r3 ≠ 0 → (kl s2 a0 = 11) ∧ ((fI s2 a1 1 ≠ 11 → (kl s2 (fR s2 a0 0) = 6) ∧ ck iv L h0 d 200 [vr (fR s2 a0 0), vr a1, vr a2, vr a3, vr 2] s2 (qa fun r137 s136 => F r137 s136)) ∧ (fI s2 a1 1 = 11 → (kl s2 (fR s2 a0 0) = 6) ∧ ck iv L h0 d 200 [vr (fR s2 a0 0), vr a1, vr a2, vr a3, vr a4] s2 (qa fun r140 s139 => F r140 s139)))))) ∧ (fI s2 a2 0 = 3 → ((fI s2 a1 1 ≠ 13 → F (fR s2 a2 4) s2) ∧ (fI s2 a1 1 = 13 → F (fR s2 a2 3) s2)))))))) : ck iv L h0 (d + 1) 239 [vr a0, vr a1, vr a2, vr a3, vr a4, vi a5] s (qa F) := by
  show wk iv L h0 (d + 1) 239 0 [lr a0, lr a1, lr a2, lr a3, lr a4, li a5] [] s (qa F)
  refine w_aload_n rfl rfl ?_
  obtain ⟨g1, H⟩ := H
  refine c_virt (p := a2) (as := []) (r := []) rfl rfl rfl rfl rfl rfl g1 (wc_mono H (Nat.le_refl _) ?_)
  rintro _ s2 ⟨r3, rfl, H⟩
  show wk iv L h0 (d + 1) 239 4 [lr a0, lr a1, lr a2, lr a3, lr a4, li a5] [vi r3] s2 (qa F)
  refine w_istore rfl rfl ?_
  refine w_aload_n rfl rfl ?_
  obtain ⟨g4, H⟩ := H
  refine c_get rfl rfl rfl g4 ?_
  have J66 : (fI s2 a1 1 = 9) → wk iv L h0 (d + 1) 239 66 [lr a0, lr a1, lr a2, lr a3, lr a4, li a5, li r3] [] s2 (qa F) := fun h => by
    replace H := H.1 h
    refine w_aload_n rfl rfl ?_
    obtain ⟨g5, H⟩ := H
    refine c_get rfl rfl rfl g5 ?_
    refine w_iconst (n := 2) rfl rfl ?_
    refine w_icmp_ne rfl (fun h => ?_) (fun h => ?_)
    · replace H := H.1 h
      refine w_iload rfl rfl ?_
      refine w_if_eq rfl (fun h => ?_) (fun h => ?_)
      · replace H := H.1 h
        refine w_aload_n rfl rfl ?_
        refine w_iconst (n := 3) rfl rfl ?_
        refine w_aload_n rfl rfl ?_
        refine c_get rfl rfl rfl g4 ?_
        obtain ⟨g6, H⟩ := H
        refine c_virt (p := a0) (as := [vi 3, vi (fI s2 a1 0)]) (r := []) rfl rfl rfl rfl rfl rfl g6 (wc_mono H (Nat.le_refl _) ?_)
        rintro _ s7 ⟨r8, rfl, H⟩
        show wk iv L h0 (d + 1) 239 270 [lr a0, lr a1, lr a2, lr a3, lr a4, li a5, li r3] [vr r8] s7 (qa F)
        exact w_aret rfl rfl ⟨_, rfl, H⟩
      · replace H := H.2 h
        refine w_aload_n rfl rfl ?_
        obtain ⟨g9, H⟩ := H
        refine c_getr rfl rfl rfl g9 ?_
        refine w_aload_n rfl rfl ?_
        refine w_aload_n rfl rfl ?_
        refine w_aload_n rfl rfl ?_
        refine w_aload_n rfl rfl ?_
        refine c_get rfl rfl rfl g4 ?_
        refine w_bipush (n := 11) rfl rfl rfl ?_
        refine w_icmp_ne rfl (fun h => ?_) (fun h => ?_)
        · replace H := H.1 h
          refine w_null rfl ?_
          obtain ⟨g10, H⟩ := H
          refine c_virt (p := (fR s2 a0 0)) (as := [vr a1, vr a2, vr a3, vr 2]) (r := []) rfl rfl rfl rfl rfl rfl g10 (wc_mono H (Nat.le_refl _) ?_)
          rintro _ s11 ⟨r12, rfl, H⟩
          show wk iv L h0 (d + 1) 239 258 [lr a0, lr a1, lr a2, lr a3, lr a4, li a5, li r3] [vr r12] s11 (qa F)
          refine w_goto rfl ?_
          exact w_aret rfl rfl ⟨_, rfl, H⟩
        · replace H := H.2 h
          refine w_aload rfl rfl ?_
          refine w_goto rfl ?_
          obtain ⟨g13, H⟩ := H
          refine c_virt (p := (fR s2 a0 0)) (as := [vr a1, vr a2, vr a3, vr a4]) (r := []) rfl rfl rfl rfl rfl rfl g13 (wc_mono H (Nat.le_refl _) ?_)
          rintro _ s14 ⟨r15, rfl, H⟩
          show wk iv L h0 (d + 1) 239 258 [lr a0, lr a1, lr a2, lr a3, lr a4, li a5, li r3] [vr r15] s14 (qa F)
          refine w_goto rfl ?_
          exact w_aret rfl rfl ⟨_, rfl, H⟩
    · replace H := H.2 h
      refine w_aload_n rfl rfl ?_
      refine w_aload_n rfl rfl ?_
      refine c_getr rfl rfl rfl g5 ?_
      obtain ⟨g16, H⟩ := H
      refine c_getr rfl rfl rfl g16 ?_
      refine w_iconst (n := 0) rfl rfl ?_
      obtain ⟨g17, H⟩ := H
      obtain ⟨g18, H⟩ := H
      refine c_aald (t := 3) rfl ⟨g17, by decide, by decide⟩ g18 ?_
      refine w_aload_n rfl rfl ?_
      obtain ⟨g19, H⟩ := H
      refine c_getr rfl rfl rfl g19 ?_
      refine w_aload_n rfl rfl ?_
      refine c_getr rfl rfl rfl g5 ?_
      refine c_get rfl rfl rfl g16 ?_
      refine w_aload_n rfl rfl ?_
      refine w_aload_n rfl rfl ?_
      refine c_getr rfl rfl rfl g5 ?_
      obtain ⟨g20, H⟩ := H
      refine c_virt (p := (fR s2 a0 0)) (as := [vi (fI s2 (fR s2 a2 2) 4), vr a3, vr (fR s2 a2 5)]) (r := [vr (aR s2 (fR s2 (fR s2 a2 2) 3) 0), vr a0]) rfl rfl rfl rfl rfl rfl g20 (wc_mono H (Nat.le_refl _) ?_)
      rintro _ s21 ⟨r22, rfl, H⟩
      show wk iv L h0 (d + 1) 239 103 [lr a0, lr a1, lr a2, lr a3, lr a4, li a5, li r3] [vr r22, vr (aR s2 (fR s2 (fR s2 a2 2) 3) 0), vr a0] s21 (qa F)
      refine w_iload rfl rfl ?_
      obtain ⟨g23, H⟩ := H
      refine c_virt (p := a0) (as := [vr (aR s2 (fR s2 (fR s2 a2 2) 3) 0), vr r22, vi a5]) (r := []) rfl rfl rfl rfl rfl rfl g23 (wc_mono H (Nat.le_refl _) ?_)
      rintro _ s24 ⟨r25, rfl, H⟩
      show wk iv L h0 (d + 1) 239 108 [lr a0, lr a1, lr a2, lr a3, lr a4, li a5, li r3] [vr r25] s24 (qa F)
      exact w_aret rfl rfl ⟨_, rfl, H⟩
  have J173 : (fI s2 a1 1 = 10 ∨ fI s2 a1 1 < 9 ∨ 14 < fI s2 a1 1) → wk iv L h0 (d + 1) 239 173 [lr a0, lr a1, lr a2, lr a3, lr a4, li a5, li r3] [] s2 (qa F) := fun h => by
    replace H := H.2.1 h
    refine w_aload_n rfl rfl ?_
    refine c_null rfl (fun h => ?_) (fun h => ?_)
    · replace H := H.1 h
      refine w_iload rfl rfl ?_
      refine w_if_ne rfl (fun h => ?_) (fun h => ?_)
      · replace H := H.1 h
        refine w_iconst (n := 1) rfl rfl ?_
        refine w_goto rfl ?_
        refine w_istore rfl rfl ?_
        refine w_iload rfl rfl ?_
        refine w_if_eq rfl (fun h => absurd h (by decide)) (fun _ => ?_)
        refine w_aload_n rfl rfl ?_
        obtain ⟨g26, H⟩ := H
        refine c_getr rfl rfl rfl g26 ?_
        refine w_aload_n rfl rfl ?_
        refine w_aload_n rfl rfl ?_
        refine w_aload_n rfl rfl ?_
        refine w_aload_n rfl rfl ?_
        refine c_get rfl rfl rfl g4 ?_
        refine w_bipush (n := 11) rfl rfl rfl ?_
        refine w_icmp_ne rfl (fun h => ?_) (fun h => ?_)
        · replace H := H.1 h
          refine w_null rfl ?_
          obtain ⟨g27, H⟩ := H
          refine c_virt (p := (fR s2 a0 0)) (as := [vr a1, vr a2, vr a3, vr 2]) (r := []) rfl rfl rfl rfl rfl rfl g27 (wc_mono H (Nat.le_refl _) ?_)
          rintro _ s28 ⟨r29, rfl, H⟩
          show wk iv L h0 (d + 1) 239 258 [lr a0, lr a1, lr a2, lr a3, lr a4, li a5, li 1] [vr r29] s28 (qa F)
          refine w_goto rfl ?_
          exact w_aret rfl rfl ⟨_, rfl, H⟩
        · replace H := H.2 h
          refine w_aload rfl rfl ?_
          refine w_goto rfl ?_
          obtain ⟨g30, H⟩ := H
          refine c_virt (p := (fR s2 a0 0)) (as := [vr a1, vr a2, vr a3, vr a4]) (r := []) rfl rfl rfl rfl rfl rfl g30 (wc_mono H (Nat.le_refl _) ?_)
          rintro _ s31 ⟨r32, rfl, H⟩
          show wk iv L h0 (d + 1) 239 258 [lr a0, lr a1, lr a2, lr a3, lr a4, li a5, li 1] [vr r32] s31 (qa F)
          refine w_goto rfl ?_
          exact w_aret rfl rfl ⟨_, rfl, H⟩
      · replace H := H.2 h
        refine w_aload_n rfl rfl ?_
        refine c_null rfl (fun h => ?_) (fun h => ?_)
        · replace H := H.1 h
          refine w_iconst (n := 0) rfl rfl ?_
          refine w_istore rfl rfl ?_
          refine w_iload rfl rfl ?_
          refine w_if_eq rfl (fun _ => ?_) (fun h => absurd h (by decide))
          refine w_aload_n rfl rfl ?_
          refine w_iconst (n := 3) rfl rfl ?_
          refine w_aload_n rfl rfl ?_
          refine c_get rfl rfl rfl g4 ?_
          obtain ⟨g33, H⟩ := H
          refine c_virt (p := a0) (as := [vi 3, vi (fI s2 a1 0)]) (r := []) rfl rfl rfl rfl rfl rfl g33 (wc_mono H (Nat.le_refl _) ?_)
          rintro _ s34 ⟨r35, rfl, H⟩
          show wk iv L h0 (d + 1) 239 270 [lr a0, lr a1, lr a2, lr a3, lr a4, li a5, li 0] [vr r35] s34 (qa F)
          exact w_aret rfl rfl ⟨_, rfl, H⟩
        · replace H := H.2 h
          refine w_aload_n rfl rfl ?_
          obtain ⟨g36, H⟩ := H
          refine c_virt (p := a3) (as := []) (r := []) rfl rfl rfl rfl rfl rfl g36 (wc_mono H (Nat.le_refl _) ?_)
          rintro _ s37 ⟨r38, rfl, H⟩
          show wk iv L h0 (d + 1) 239 218 [lr a0, lr a1, lr a2, lr a3, lr a4, li a5, li r3] [vi r38] s37 (qa F)
          refine w_if_eq rfl (fun h => ?_) (fun h => ?_)
          · replace H := H.1 h
            refine w_iconst (n := 0) rfl rfl ?_
            refine w_istore rfl rfl ?_
            refine w_iload rfl rfl ?_
            refine w_if_eq rfl (fun _ => ?_) (fun h => absurd h (by decide))
            refine w_aload_n rfl rfl ?_
            refine w_iconst (n := 3) rfl rfl ?_
            refine w_aload_n rfl rfl ?_
            obtain ⟨g39, H⟩ := H
            refine c_get rfl rfl rfl g39 ?_
            obtain ⟨g40, H⟩ := H
            refine c_virt (p := a0) (as := [vi 3, vi (fI s37 a1 0)]) (r := []) rfl rfl rfl rfl rfl rfl g40 (wc_mono H (Nat.le_refl _) ?_)
            rintro _ s41 ⟨r42, rfl, H⟩
            show wk iv L h0 (d + 1) 239 270 [lr a0, lr a1, lr a2, lr a3, lr a4, li a5, li 0] [vr r42] s41 (qa F)
            exact w_aret rfl rfl ⟨_, rfl, H⟩
          · replace H := H.2 h
            refine w_iconst (n := 1) rfl rfl ?_
            refine w_goto rfl ?_
            refine w_istore rfl rfl ?_
            refine w_iload rfl rfl ?_
            refine w_if_eq rfl (fun h => absurd h (by decide)) (fun _ => ?_)
            refine w_aload_n rfl rfl ?_
            obtain ⟨g43, H⟩ := H
            refine c_getr rfl rfl rfl g43 ?_
            refine w_aload_n rfl rfl ?_
            refine w_aload_n rfl rfl ?_
            refine w_aload_n rfl rfl ?_
            refine w_aload_n rfl rfl ?_
            obtain ⟨g44, H⟩ := H
            refine c_get rfl rfl rfl g44 ?_
            refine w_bipush (n := 11) rfl rfl rfl ?_
            refine w_icmp_ne rfl (fun h => ?_) (fun h => ?_)
            · replace H := H.1 h
              refine w_null rfl ?_
              obtain ⟨g45, H⟩ := H
              refine c_virt (p := (fR s37 a0 0)) (as := [vr a1, vr a2, vr a3, vr 2]) (r := []) rfl rfl rfl rfl rfl rfl g45 (wc_mono H (Nat.le_refl _) ?_)
              rintro _ s46 ⟨r47, rfl, H⟩
              show wk iv L h0 (d + 1) 239 258 [lr a0, lr a1, lr a2, lr a3, lr a4, li a5, li 1] [vr r47] s46 (qa F)
              refine w_goto rfl ?_
              exact w_aret rfl rfl ⟨_, rfl, H⟩
            · replace H := H.2 h
              refine w_aload rfl rfl ?_
              refine w_goto rfl ?_
              obtain ⟨g48, H⟩ := H
              refine c_virt (p := (fR s37 a0 0)) (as := [vr a1, vr a2, vr a3, vr a4]) (r := []) rfl rfl rfl rfl rfl rfl g48 (wc_mono H (Nat.le_refl _) ?_)
              rintro _ s49 ⟨r50, rfl, H⟩
              show wk iv L h0 (d + 1) 239 258 [lr a0, lr a1, lr a2, lr a3, lr a4, li a5, li 1] [vr r50] s49 (qa F)
              refine w_goto rfl ?_
              exact w_aret rfl rfl ⟨_, rfl, H⟩
    · replace H := H.2 h
      refine w_aload_n rfl rfl ?_
      obtain ⟨g51, H⟩ := H
      refine c_get rfl rfl rfl g51 ?_
      refine w_if_ne rfl (fun h => ?_) (fun h => ?_)
      · replace H := H.1 h
        refine w_iload rfl rfl ?_
        refine w_if_ne rfl (fun h => ?_) (fun h => ?_)
        · replace H := H.1 h
          refine w_iconst (n := 1) rfl rfl ?_
          refine w_goto rfl ?_
          refine w_istore rfl rfl ?_
          refine w_iload rfl rfl ?_
          refine w_if_eq rfl (fun h => absurd h (by decide)) (fun _ => ?_)
          refine w_aload_n rfl rfl ?_
          obtain ⟨g52, H⟩ := H
          refine c_getr rfl rfl rfl g52 ?_
          refine w_aload_n rfl rfl ?_
          refine w_aload_n rfl rfl ?_
          refine w_aload_n rfl rfl ?_
          refine w_aload_n rfl rfl ?_
          refine c_get rfl rfl rfl g4 ?_
          refine w_bipush (n := 11) rfl rfl rfl ?_
          refine w_icmp_ne rfl (fun h => ?_) (fun h => ?_)
          · replace H := H.1 h
            refine w_null rfl ?_
            obtain ⟨g53, H⟩ := H
            refine c_virt (p := (fR s2 a0 0)) (as := [vr a1, vr a2, vr a3, vr 2]) (r := []) rfl rfl rfl rfl rfl rfl g53 (wc_mono H (Nat.le_refl _) ?_)
            rintro _ s54 ⟨r55, rfl, H⟩
            show wk iv L h0 (d + 1) 239 258 [lr a0, lr a1, lr a2, lr a3, lr a4, li a5, li 1] [vr r55] s54 (qa F)
            refine w_goto rfl ?_
            exact w_aret rfl rfl ⟨_, rfl, H⟩
          · replace H := H.2 h
            refine w_aload rfl rfl ?_
            refine w_goto rfl ?_
            obtain ⟨g56, H⟩ := H
            refine c_virt (p := (fR s2 a0 0)) (as := [vr a1, vr a2, vr a3, vr a4]) (r := []) rfl rfl rfl rfl rfl rfl g56 (wc_mono H (Nat.le_refl _) ?_)
            rintro _ s57 ⟨r58, rfl, H⟩
            show wk iv L h0 (d + 1) 239 258 [lr a0, lr a1, lr a2, lr a3, lr a4, li a5, li 1] [vr r58] s57 (qa F)
            refine w_goto rfl ?_
            exact w_aret rfl rfl ⟨_, rfl, H⟩
        · replace H := H.2 h
          refine w_aload_n rfl rfl ?_
          refine c_null rfl (fun h => ?_) (fun h => ?_)
          · replace H := H.1 h
            refine w_iconst (n := 0) rfl rfl ?_
            refine w_istore rfl rfl ?_
            refine w_iload rfl rfl ?_
            refine w_if_eq rfl (fun _ => ?_) (fun h => absurd h (by decide))
            refine w_aload_n rfl rfl ?_
            refine w_iconst (n := 3) rfl rfl ?_
            refine w_aload_n rfl rfl ?_
            refine c_get rfl rfl rfl g4 ?_
            obtain ⟨g59, H⟩ := H
            refine c_virt (p := a0) (as := [vi 3, vi (fI s2 a1 0)]) (r := []) rfl rfl rfl rfl rfl rfl g59 (wc_mono H (Nat.le_refl _) ?_)
            rintro _ s60 ⟨r61, rfl, H⟩
            show wk iv L h0 (d + 1) 239 270 [lr a0, lr a1, lr a2, lr a3, lr a4, li a5, li 0] [vr r61] s60 (qa F)
            exact w_aret rfl rfl ⟨_, rfl, H⟩
          · replace H := H.2 h
            refine w_aload_n rfl rfl ?_
            obtain ⟨g62, H⟩ := H
            refine c_virt (p := a3) (as := []) (r := []) rfl rfl rfl rfl rfl rfl g62 (wc_mono H (Nat.le_refl _) ?_)
            rintro _ s63 ⟨r64, rfl, H⟩
            show wk iv L h0 (d + 1) 239 218 [lr a0, lr a1, lr a2, lr a3, lr a4, li a5, li r3] [vi r64] s63 (qa F)
            refine w_if_eq rfl (fun h => ?_) (fun h => ?_)
            · replace H := H.1 h
              refine w_iconst (n := 0) rfl rfl ?_
              refine w_istore rfl rfl ?_
              refine w_iload rfl rfl ?_
              refine w_if_eq rfl (fun _ => ?_) (fun h => absurd h (by decide))
              refine w_aload_n rfl rfl ?_
              refine w_iconst (n := 3) rfl rfl ?_
              refine w_aload_n rfl rfl ?_
              obtain ⟨g65, H⟩ := H
              refine c_get rfl rfl rfl g65 ?_
              obtain ⟨g66, H⟩ := H
              refine c_virt (p := a0) (as := [vi 3, vi (fI s63 a1 0)]) (r := []) rfl rfl rfl rfl rfl rfl g66 (wc_mono H (Nat.le_refl _) ?_)
              rintro _ s67 ⟨r68, rfl, H⟩
              show wk iv L h0 (d + 1) 239 270 [lr a0, lr a1, lr a2, lr a3, lr a4, li a5, li 0] [vr r68] s67 (qa F)
              exact w_aret rfl rfl ⟨_, rfl, H⟩
            · replace H := H.2 h
              refine w_iconst (n := 1) rfl rfl ?_
              refine w_goto rfl ?_
              refine w_istore rfl rfl ?_
              refine w_iload rfl rfl ?_
              refine w_if_eq rfl (fun h => absurd h (by decide)) (fun _ => ?_)
              refine w_aload_n rfl rfl ?_
              obtain ⟨g69, H⟩ := H
              refine c_getr rfl rfl rfl g69 ?_
              refine w_aload_n rfl rfl ?_
              refine w_aload_n rfl rfl ?_
              refine w_aload_n rfl rfl ?_
              refine w_aload_n rfl rfl ?_
              obtain ⟨g70, H⟩ := H
              refine c_get rfl rfl rfl g70 ?_
              refine w_bipush (n := 11) rfl rfl rfl ?_
              refine w_icmp_ne rfl (fun h => ?_) (fun h => ?_)
              · replace H := H.1 h
                refine w_null rfl ?_
                obtain ⟨g71, H⟩ := H
                refine c_virt (p := (fR s63 a0 0)) (as := [vr a1, vr a2, vr a3, vr 2]) (r := []) rfl rfl rfl rfl rfl rfl g71 (wc_mono H (Nat.le_refl _) ?_)
                rintro _ s72 ⟨r73, rfl, H⟩
                show wk iv L h0 (d + 1) 239 258 [lr a0, lr a1, lr a2, lr a3, lr a4, li a5, li 1] [vr r73] s72 (qa F)
                refine w_goto rfl ?_
                exact w_aret rfl rfl ⟨_, rfl, H⟩
              · replace H := H.2 h
                refine w_aload rfl rfl ?_
                refine w_goto rfl ?_
                obtain ⟨g74, H⟩ := H
                refine c_virt (p := (fR s63 a0 0)) (as := [vr a1, vr a2, vr a3, vr a4]) (r := []) rfl rfl rfl rfl rfl rfl g74 (wc_mono H (Nat.le_refl _) ?_)
                rintro _ s75 ⟨r76, rfl, H⟩
                show wk iv L h0 (d + 1) 239 258 [lr a0, lr a1, lr a2, lr a3, lr a4, li a5, li 1] [vr r76] s75 (qa F)
                refine w_goto rfl ?_
                exact w_aret rfl rfl ⟨_, rfl, H⟩
      · replace H := H.2 h
        refine w_aload_n rfl rfl ?_
        obtain ⟨g77, H⟩ := H
        refine c_get rfl rfl rfl g77 ?_
        refine w_if_ne rfl (fun h => ?_) (fun h => ?_)
        · replace H := H.1 h
          refine w_iload rfl rfl ?_
          refine w_if_ne rfl (fun h => ?_) (fun h => ?_)
          · replace H := H.1 h
            refine w_iconst (n := 1) rfl rfl ?_
            refine w_goto rfl ?_
            refine w_istore rfl rfl ?_
            refine w_iload rfl rfl ?_
            refine w_if_eq rfl (fun h => absurd h (by decide)) (fun _ => ?_)
            refine w_aload_n rfl rfl ?_
            obtain ⟨g78, H⟩ := H
            refine c_getr rfl rfl rfl g78 ?_
            refine w_aload_n rfl rfl ?_
            refine w_aload_n rfl rfl ?_
            refine w_aload_n rfl rfl ?_
            refine w_aload_n rfl rfl ?_
            refine c_get rfl rfl rfl g4 ?_
            refine w_bipush (n := 11) rfl rfl rfl ?_
            refine w_icmp_ne rfl (fun h => ?_) (fun h => ?_)
            · replace H := H.1 h
              refine w_null rfl ?_
              obtain ⟨g79, H⟩ := H
              refine c_virt (p := (fR s2 a0 0)) (as := [vr a1, vr a2, vr a3, vr 2]) (r := []) rfl rfl rfl rfl rfl rfl g79 (wc_mono H (Nat.le_refl _) ?_)
              rintro _ s80 ⟨r81, rfl, H⟩
              show wk iv L h0 (d + 1) 239 258 [lr a0, lr a1, lr a2, lr a3, lr a4, li a5, li 1] [vr r81] s80 (qa F)
              refine w_goto rfl ?_
              exact w_aret rfl rfl ⟨_, rfl, H⟩
            · replace H := H.2 h
              refine w_aload rfl rfl ?_
              refine w_goto rfl ?_
              obtain ⟨g82, H⟩ := H
              refine c_virt (p := (fR s2 a0 0)) (as := [vr a1, vr a2, vr a3, vr a4]) (r := []) rfl rfl rfl rfl rfl rfl g82 (wc_mono H (Nat.le_refl _) ?_)
              rintro _ s83 ⟨r84, rfl, H⟩
              show wk iv L h0 (d + 1) 239 258 [lr a0, lr a1, lr a2, lr a3, lr a4, li a5, li 1] [vr r84] s83 (qa F)
              refine w_goto rfl ?_
              exact w_aret rfl rfl ⟨_, rfl, H⟩
          · replace H := H.2 h
            refine w_aload_n rfl rfl ?_
            refine c_null rfl (fun h => ?_) (fun h => ?_)
            · replace H := H.1 h
              refine w_iconst (n := 0) rfl rfl ?_
              refine w_istore rfl rfl ?_
              refine w_iload rfl rfl ?_
              refine w_if_eq rfl (fun _ => ?_) (fun h => absurd h (by decide))
              refine w_aload_n rfl rfl ?_
              refine w_iconst (n := 3) rfl rfl ?_
              refine w_aload_n rfl rfl ?_
              refine c_get rfl rfl rfl g4 ?_
              obtain ⟨g85, H⟩ := H
              refine c_virt (p := a0) (as := [vi 3, vi (fI s2 a1 0)]) (r := []) rfl rfl rfl rfl rfl rfl g85 (wc_mono H (Nat.le_refl _) ?_)
              rintro _ s86 ⟨r87, rfl, H⟩
              show wk iv L h0 (d + 1) 239 270 [lr a0, lr a1, lr a2, lr a3, lr a4, li a5, li 0] [vr r87] s86 (qa F)
              exact w_aret rfl rfl ⟨_, rfl, H⟩
            · replace H := H.2 h
              refine w_aload_n rfl rfl ?_
              refine c_virt (p := a3) (as := []) (r := []) rfl rfl rfl rfl rfl rfl g77 (wc_mono H (Nat.le_refl _) ?_)
              rintro _ s88 ⟨r89, rfl, H⟩
              show wk iv L h0 (d + 1) 239 218 [lr a0, lr a1, lr a2, lr a3, lr a4, li a5, li r3] [vi r89] s88 (qa F)
              refine w_if_eq rfl (fun h => ?_) (fun h => ?_)
              · replace H := H.1 h
                refine w_iconst (n := 0) rfl rfl ?_
                refine w_istore rfl rfl ?_
                refine w_iload rfl rfl ?_
                refine w_if_eq rfl (fun _ => ?_) (fun h => absurd h (by decide))
                refine w_aload_n rfl rfl ?_
                refine w_iconst (n := 3) rfl rfl ?_
                refine w_aload_n rfl rfl ?_
                obtain ⟨g90, H⟩ := H
                refine c_get rfl rfl rfl g90 ?_
                obtain ⟨g91, H⟩ := H
                refine c_virt (p := a0) (as := [vi 3, vi (fI s88 a1 0)]) (r := []) rfl rfl rfl rfl rfl rfl g91 (wc_mono H (Nat.le_refl _) ?_)
                rintro _ s92 ⟨r93, rfl, H⟩
                show wk iv L h0 (d + 1) 239 270 [lr a0, lr a1, lr a2, lr a3, lr a4, li a5, li 0] [vr r93] s92 (qa F)
                exact w_aret rfl rfl ⟨_, rfl, H⟩
              · replace H := H.2 h
                refine w_iconst (n := 1) rfl rfl ?_
                refine w_goto rfl ?_
                refine w_istore rfl rfl ?_
                refine w_iload rfl rfl ?_
                refine w_if_eq rfl (fun h => absurd h (by decide)) (fun _ => ?_)
                refine w_aload_n rfl rfl ?_
                obtain ⟨g94, H⟩ := H
                refine c_getr rfl rfl rfl g94 ?_
                refine w_aload_n rfl rfl ?_
                refine w_aload_n rfl rfl ?_
                refine w_aload_n rfl rfl ?_
                refine w_aload_n rfl rfl ?_
                obtain ⟨g95, H⟩ := H
                refine c_get rfl rfl rfl g95 ?_
                refine w_bipush (n := 11) rfl rfl rfl ?_
                refine w_icmp_ne rfl (fun h => ?_) (fun h => ?_)
                · replace H := H.1 h
                  refine w_null rfl ?_
                  obtain ⟨g96, H⟩ := H
                  refine c_virt (p := (fR s88 a0 0)) (as := [vr a1, vr a2, vr a3, vr 2]) (r := []) rfl rfl rfl rfl rfl rfl g96 (wc_mono H (Nat.le_refl _) ?_)
                  rintro _ s97 ⟨r98, rfl, H⟩
                  show wk iv L h0 (d + 1) 239 258 [lr a0, lr a1, lr a2, lr a3, lr a4, li a5, li 1] [vr r98] s97 (qa F)
                  refine w_goto rfl ?_
                  exact w_aret rfl rfl ⟨_, rfl, H⟩
                · replace H := H.2 h
                  refine w_aload rfl rfl ?_
                  refine w_goto rfl ?_
                  obtain ⟨g99, H⟩ := H
                  refine c_virt (p := (fR s88 a0 0)) (as := [vr a1, vr a2, vr a3, vr a4]) (r := []) rfl rfl rfl rfl rfl rfl g99 (wc_mono H (Nat.le_refl _) ?_)
                  rintro _ s100 ⟨r101, rfl, H⟩
                  show wk iv L h0 (d + 1) 239 258 [lr a0, lr a1, lr a2, lr a3, lr a4, li a5, li 1] [vr r101] s100 (qa F)
                  refine w_goto rfl ?_
                  exact w_aret rfl rfl ⟨_, rfl, H⟩
        · replace H := H.2 h
          refine w_aload_n rfl rfl ?_
          refine w_aload_n rfl rfl ?_
          refine w_aload_n rfl rfl ?_
          refine c_get rfl rfl rfl g51 ?_
          refine w_aload_n rfl rfl ?_
          refine c_get rfl rfl rfl g77 ?_
          obtain ⟨g102, H⟩ := H
          refine c_virt (p := a0) (as := [vr a1, vi (fI s2 a2 1), vi (fI s2 a3 1)]) (r := []) rfl rfl rfl rfl rfl rfl g102 (wc_mono H (Nat.le_refl _) ?_)
          rintro _ s103 ⟨r104, rfl, H⟩
          show wk iv L h0 (d + 1) 239 204 [lr a0, lr a1, lr a2, lr a3, lr a4, li a5, li r3] [vr r104] s103 (qa F)
          exact w_aret rfl rfl ⟨_, rfl, H⟩
  have J109 : (fI s2 a1 1 = 11) → wk iv L h0 (d + 1) 239 109 [lr a0, lr a1, lr a2, lr a3, lr a4, li a5, li r3] [] s2 (qa F) := fun h => by
    replace H := H.2.2.1 h
    refine w_aload_n rfl rfl ?_
    obtain ⟨g105, H⟩ := H
    refine c_get rfl rfl rfl g105 ?_
    refine w_iconst (n := 1) rfl rfl ?_
    refine w_icmp_ne rfl (fun h => ?_) (fun h => ?_)
    · replace H := H.1 h
      refine w_iload rfl rfl ?_
      refine w_if_eq rfl (fun h => ?_) (fun h => ?_)
      · replace H := H.1 h
        refine w_aload_n rfl rfl ?_
        refine w_iconst (n := 3) rfl rfl ?_
        refine w_aload_n rfl rfl ?_
        refine c_get rfl rfl rfl g4 ?_
        obtain ⟨g106, H⟩ := H
        refine c_virt (p := a0) (as := [vi 3, vi (fI s2 a1 0)]) (r := []) rfl rfl rfl rfl rfl rfl g106 (wc_mono H (Nat.le_refl _) ?_)
        rintro _ s107 ⟨r108, rfl, H⟩
        show wk iv L h0 (d + 1) 239 270 [lr a0, lr a1, lr a2, lr a3, lr a4, li a5, li r3] [vr r108] s107 (qa F)
        exact w_aret rfl rfl ⟨_, rfl, H⟩
      · replace H := H.2 h
        refine w_aload_n rfl rfl ?_
        obtain ⟨g109, H⟩ := H
        refine c_getr rfl rfl rfl g109 ?_
        refine w_aload_n rfl rfl ?_
        refine w_aload_n rfl rfl ?_
        refine w_aload_n rfl rfl ?_
        refine w_aload_n rfl rfl ?_
        refine c_get rfl rfl rfl g4 ?_
        refine w_bipush (n := 11) rfl rfl rfl ?_
        refine w_icmp_ne rfl (fun h => ?_) (fun h => ?_)
        · replace H := H.1 h
          refine w_null rfl ?_
          obtain ⟨g110, H⟩ := H
          refine c_virt (p := (fR s2 a0 0)) (as := [vr a1, vr a2, vr a3, vr 2]) (r := []) rfl rfl rfl rfl rfl rfl g110 (wc_mono H (Nat.le_refl _) ?_)
          rintro _ s111 ⟨r112, rfl, H⟩
          show wk iv L h0 (d + 1) 239 258 [lr a0, lr a1, lr a2, lr a3, lr a4, li a5, li r3] [vr r112] s111 (qa F)
          refine w_goto rfl ?_
          exact w_aret rfl rfl ⟨_, rfl, H⟩
        · replace H := H.2 h
          refine w_aload rfl rfl ?_
          refine w_goto rfl ?_
          obtain ⟨g113, H⟩ := H
          refine c_virt (p := (fR s2 a0 0)) (as := [vr a1, vr a2, vr a3, vr a4]) (r := []) rfl rfl rfl rfl rfl rfl g113 (wc_mono H (Nat.le_refl _) ?_)
          rintro _ s114 ⟨r115, rfl, H⟩
          show wk iv L h0 (d + 1) 239 258 [lr a0, lr a1, lr a2, lr a3, lr a4, li a5, li r3] [vr r115] s114 (qa F)
          refine w_goto rfl ?_
          exact w_aret rfl rfl ⟨_, rfl, H⟩
    · replace H := H.2 h
      refine w_aload_n rfl rfl ?_
      refine w_aload_n rfl rfl ?_
      refine c_getr rfl rfl rfl g4 ?_
      refine w_aload_n rfl rfl ?_
      refine c_get rfl rfl rfl g105 ?_
      refine w_iconst (n := 1) rfl rfl ?_
      refine w_icmp_ne rfl (fun h => ?_) (fun h => ?_)
      · replace H := H.1 h
        refine w_iconst (n := 2) rfl rfl ?_
        obtain ⟨g116, H⟩ := H
        obtain ⟨g117, H⟩ := H
        refine c_aald (t := 3) rfl ⟨g116, by decide, by decide⟩ g117 ?_
        refine w_aload rfl rfl ?_
        refine w_iload rfl rfl ?_
        obtain ⟨g118, H⟩ := H
        refine c_virt (p := a0) (as := [vr (aR s2 (fR s2 a1 3) 2), vr a4, vi a5]) (r := []) rfl rfl rfl rfl rfl rfl g118 (wc_mono H (Nat.le_refl _) ?_)
        rintro _ s119 ⟨r120, rfl, H⟩
        show wk iv L h0 (d + 1) 239 143 [lr a0, lr a1, lr a2, lr a3, lr a4, li a5, li r3] [vr r120] s119 (qa F)
        exact w_aret rfl rfl ⟨_, rfl, H⟩
      · replace H := H.2 h
        refine w_iconst (n := 1) rfl rfl ?_
        refine w_goto rfl ?_
        obtain ⟨g121, H⟩ := H
        obtain ⟨g122, H⟩ := H
        refine c_aald (t := 3) rfl ⟨g121, by decide, by decide⟩ g122 ?_
        refine w_aload rfl rfl ?_
        refine w_iload rfl rfl ?_
        obtain ⟨g123, H⟩ := H
        refine c_virt (p := a0) (as := [vr (aR s2 (fR s2 a1 3) 1), vr a4, vi a5]) (r := []) rfl rfl rfl rfl rfl rfl g123 (wc_mono H (Nat.le_refl _) ?_)
        rintro _ s124 ⟨r125, rfl, H⟩
        show wk iv L h0 (d + 1) 239 143 [lr a0, lr a1, lr a2, lr a3, lr a4, li a5, li r3] [vr r125] s124 (qa F)
        exact w_aret rfl rfl ⟨_, rfl, H⟩
  have J48 : (fI s2 a1 1 = 12) → wk iv L h0 (d + 1) 239 48 [lr a0, lr a1, lr a2, lr a3, lr a4, li a5, li r3] [] s2 (qa F) := fun h => by
    replace H := H.2.2.2.1 h
    refine w_aload_n rfl rfl ?_
    refine c_nonnull rfl (fun h => ?_) (fun h => ?_)
    · replace H := H.1 h
      refine w_aload_n rfl rfl ?_
      obtain ⟨g126, H⟩ := H
      refine c_getr rfl rfl rfl g126 ?_
      refine w_aload_n rfl rfl ?_
      refine w_aload_n rfl rfl ?_
      obtain ⟨g127, H⟩ := H
      refine c_virt (p := (fR s2 a0 0)) (as := [vr a2, vr a3]) (r := []) rfl rfl rfl rfl rfl rfl g127 (wc_mono H (Nat.le_refl _) ?_)
      rintro _ s128 ⟨r129, rfl, H⟩
      show wk iv L h0 (d + 1) 239 65 [lr a0, lr a1, lr a2, lr a3, lr a4, li a5, li r3] [vr r129] s128 (qa F)
      exact w_aret rfl rfl ⟨_, rfl, H⟩
    · replace H := H.2 h
      refine w_null rfl ?_
      refine w_goto rfl ?_
      exact w_aret rfl rfl ⟨_, rfl, H⟩
  have J144 : (fI s2 a1 1 = 13 ∨ fI s2 a1 1 = 14) → wk iv L h0 (d + 1) 239 144 [lr a0, lr a1, lr a2, lr a3, lr a4, li a5, li r3] [] s2 (qa F) := fun h => by
    replace H := H.2.2.2.2 h
    refine w_aload_n rfl rfl ?_
    obtain ⟨g130, H⟩ := H
    refine c_get rfl rfl rfl g130 ?_
    refine w_iconst (n := 3) rfl rfl ?_
    refine w_icmp_ne rfl (fun h => ?_) (fun h => ?_)
    · replace H := H.1 h
      refine w_iload rfl rfl ?_
      refine w_if_eq rfl (fun h => ?_) (fun h => ?_)
      · replace H := H.1 h
        refine w_aload_n rfl rfl ?_
        refine w_iconst (n := 3) rfl rfl ?_
        refine w_aload_n rfl rfl ?_
        refine c_get rfl rfl rfl g4 ?_
        obtain ⟨g131, H⟩ := H
        refine c_virt (p := a0) (as := [vi 3, vi (fI s2 a1 0)]) (r := []) rfl rfl rfl rfl rfl rfl g131 (wc_mono H (Nat.le_refl _) ?_)
        rintro _ s132 ⟨r133, rfl, H⟩
        show wk iv L h0 (d + 1) 239 270 [lr a0, lr a1, lr a2, lr a3, lr a4, li a5, li r3] [vr r133] s132 (qa F)
        exact w_aret rfl rfl ⟨_, rfl, H⟩
      · replace H := H.2 h
        refine w_aload_n rfl rfl ?_
        obtain ⟨g134, H⟩ := H
        refine c_getr rfl rfl rfl g134 ?_
        refine w_aload_n rfl rfl ?_
        refine w_aload_n rfl rfl ?_
        refine w_aload_n rfl rfl ?_
        refine w_aload_n rfl rfl ?_
        refine c_get rfl rfl rfl g4 ?_
        refine w_bipush (n := 11) rfl rfl rfl ?_
        refine w_icmp_ne rfl (fun h => ?_) (fun h => ?_)
        · replace H := H.1 h
          refine w_null rfl ?_
          obtain ⟨g135, H⟩ := H
          refine c_virt (p := (fR s2 a0 0)) (as := [vr a1, vr a2, vr a3, vr 2]) (r := []) rfl rfl rfl rfl rfl rfl g135 (wc_mono H (Nat.le_refl _) ?_)
          rintro _ s136 ⟨r137, rfl, H⟩
          show wk iv L h0 (d + 1) 239 258 [lr a0, lr a1, lr a2, lr a3, lr a4, li a5, li r3] [vr r137] s136 (qa F)
          refine w_goto rfl ?_
          exact w_aret rfl rfl ⟨_, rfl, H⟩
        · replace H := H.2 h
          refine w_aload rfl rfl ?_
          refine w_goto rfl ?_
          obtain ⟨g138, H⟩ := H
          refine c_virt (p := (fR s2 a0 0)) (as := [vr a1, vr a2, vr a3, vr a4]) (r := []) rfl rfl rfl rfl rfl rfl g138 (wc_mono H (Nat.le_refl _) ?_)
          rintro _ s139 ⟨r140, rfl, H⟩
          show wk iv L h0 (d + 1) 239 258 [lr a0, lr a1, lr a2, lr a3, lr a4, li a5, li r3] [vr r140] s139 (qa F)
          refine w_goto rfl ?_
          exact w_aret rfl rfl ⟨_, rfl, H⟩
    · replace H := H.2 h
      refine w_aload_n rfl rfl ?_
      refine c_get rfl rfl rfl g4 ?_
      refine w_bipush (n := 13) rfl rfl rfl ?_
      refine w_icmp_ne rfl (fun h => ?_) (fun h => ?_)
      · replace H := H.1 h
        refine w_aload_n rfl rfl ?_
        refine c_getr rfl rfl rfl g130 ?_
        exact w_aret rfl rfl ⟨_, rfl, H⟩
      · replace H := H.2 h
        refine w_aload_n rfl rfl ?_
        refine c_getr rfl rfl rfl g130 ?_
        refine w_goto rfl ?_
        exact w_aret rfl rfl ⟨_, rfl, H⟩
  refine w_tsw (td := 173) (ts := [66, 173, 109, 48, 144, 144]) rfl rfl rfl rfl rfl rfl (fun h => J173 (by omega)) ?_
  exact swA_c (fun h => J66 (by omega)) (swA_c (fun h => J173 (by omega)) (swA_c (fun h => J109 (by omega)) (swA_c (fun h => J48 (by omega)) (swA_c (fun h => J144 (by omega)) (swA_c (fun h => J144 (by omega)) (swA_n))))))

/-- HoleDesk$Worker.reckon(LHoleDesk$Node;II)LHoleDesk$Value; -/
theorem C240 {iv : List (Int × Int)} {L : Nat} {h0 : MH} {d : Nat} {s : SC} {a0 : Nat} {a1 : Nat} {a2 : Int} {a3 : Int} {F : Nat → SC → Prop} (H : (kl s a1 = 5) ∧ ((fI s a1 1 = 4 → (kl s a0 = 11) ∧ (-2147483648 ≤ a2 + a3 ∧ a2 + a3 ≤ 2147483647) ∧ (kl s (fR s a0 0) = 6) ∧ ck iv L h0 d 196 [vr (fR s a0 0), vi 0, vi (a2 + a3)] s (qa fun r6 s5 => F r6 s5)) ∧ (fI s a1 1 = 5 → (kl s a0 = 11) ∧ (-2147483648 ≤ a2 * a3 ∧ a2 * a3 ≤ 2147483647) ∧ (kl s (fR s a0 0) = 6) ∧ ck iv L h0 d 196 [vr (fR s a0 0), vi 0, vi (a2 * a3)] s (qa fun r11 s10 => F r11 s10)) ∧ (fI s a1 1 = 6 → ((a3 ≠ 0 → (kl s a0 = 11) ∧ (a3 ≠ 0) ∧ (-2147483648 ≤ a2.tdiv a3 ∧ a2.tdiv a3 ≤ 2147483647) ∧ (kl s (fR s a0 0) = 6) ∧ ck iv L h0 d 196 [vr (fR s a0 0), vi 0, vi (a2.tdiv a3)] s (qa fun r17 s16 => F r17 s16)) ∧ (a3 = 0 → (kl s a0 = 11) ∧ ck iv L h0 d 232 [vr a0, vi 2, vi (fI s a1 0)] s (qa fun r20 s19 => F r20 s19)))) ∧ (fI s a1 1 < 4 ∨ 6 < fI s a1 1 → (kl s a0 = 11) ∧ ((a3 ≤ a2 → (kl s (fR s a0 0) = 6) ∧ ck iv L h0 d 196 [vr (fR s a0 0), vi 1, vi 0] s (qa fun r24 s23 => F r24 s23)) ∧ (a2 < a3 → (kl s (fR s a0 0) = 6) ∧ ck iv L h0 d 196 [vr (fR s a0 0), vi 1, vi 1] s (qa fun r27 s26 => F r27 s26)))))) : ck iv L h0 (d + 1) 240 [vr a0, vr a1, vi a2, vi a3] s (qa F) := by
  show wk iv L h0 (d + 1) 240 0 [lr a0, lr a1, li a2, li a3] [] s (qa F)
  refine w_aload_n rfl rfl ?_
  obtain ⟨g1, H⟩ := H
  refine c_get rfl rfl rfl g1 ?_
  have J32 : (fI s a1 1 = 4) → wk iv L h0 (d + 1) 240 32 [lr a0, lr a1, li a2, li a3] [] s (qa F) := fun h => by
    replace H := H.1 h
    refine w_aload_n rfl rfl ?_
    obtain ⟨g2, H⟩ := H
    refine c_getr rfl rfl rfl g2 ?_
    refine w_iconst (n := 0) rfl rfl ?_
    refine w_iload_n rfl rfl ?_
    refine w_iload_n rfl rfl ?_
    obtain ⟨g3, H⟩ := H
    refine w_iadd rfl g3 ?_
    obtain ⟨g4, H⟩ := H
    refine c_virt (p := (fR s a0 0)) (as := [vi 0, vi (a2 + a3)]) (r := []) rfl rfl rfl rfl rfl rfl g4 (wc_mono H (Nat.le_refl _) ?_)
    rintro _ s5 ⟨r6, rfl, H⟩
    show wk iv L h0 (d + 1) 240 43 [lr a0, lr a1, li a2, li a3] [vr r6] s5 (qa F)
    exact w_aret rfl rfl ⟨_, rfl, H⟩
  have J44 : (fI s a1 1 = 5) → wk iv L h0 (d + 1) 240 44 [lr a0, lr a1, li a2, li a3] [] s (qa F) := fun h => by
    replace H := H.2.1 h
    refine w_aload_n rfl rfl ?_
    obtain ⟨g7, H⟩ := H
    refine c_getr rfl rfl rfl g7 ?_
    refine w_iconst (n := 0) rfl rfl ?_
    refine w_iload_n rfl rfl ?_
    refine w_iload_n rfl rfl ?_
    obtain ⟨g8, H⟩ := H
    refine w_imul rfl g8 ?_
    obtain ⟨g9, H⟩ := H
    refine c_virt (p := (fR s a0 0)) (as := [vi 0, vi (a2 * a3)]) (r := []) rfl rfl rfl rfl rfl rfl g9 (wc_mono H (Nat.le_refl _) ?_)
    rintro _ s10 ⟨r11, rfl, H⟩
    show wk iv L h0 (d + 1) 240 55 [lr a0, lr a1, li a2, li a3] [vr r11] s10 (qa F)
    exact w_aret rfl rfl ⟨_, rfl, H⟩
  have J56 : (fI s a1 1 = 6) → wk iv L h0 (d + 1) 240 56 [lr a0, lr a1, li a2, li a3] [] s (qa F) := fun h => by
    replace H := H.2.2.1 h
    refine w_iload_n rfl rfl ?_
    refine w_if_ne rfl (fun h => ?_) (fun h => ?_)
    · replace H := H.1 h
      refine w_aload_n rfl rfl ?_
      obtain ⟨g12, H⟩ := H
      refine c_getr rfl rfl rfl g12 ?_
      refine w_iconst (n := 0) rfl rfl ?_
      refine w_iload_n rfl rfl ?_
      refine w_iload_n rfl rfl ?_
      obtain ⟨g13, H⟩ := H
      obtain ⟨g14, H⟩ := H
      refine w_idiv rfl g13 g14 ?_
      obtain ⟨g15, H⟩ := H
      refine c_virt (p := (fR s a0 0)) (as := [vi 0, vi (a2.tdiv a3)]) (r := []) rfl rfl rfl rfl rfl rfl g15 (wc_mono H (Nat.le_refl _) ?_)
      rintro _ s16 ⟨r17, rfl, H⟩
      show wk iv L h0 (d + 1) 240 83 [lr a0, lr a1, li a2, li a3] [vr r17] s16 (qa F)
      exact w_aret rfl rfl ⟨_, rfl, H⟩
    · replace H := H.2 h
      refine w_aload_n rfl rfl ?_
      refine w_iconst (n := 2) rfl rfl ?_
      refine w_aload_n rfl rfl ?_
      refine c_get rfl rfl rfl g1 ?_
      obtain ⟨g18, H⟩ := H
      refine c_virt (p := a0) (as := [vi 2, vi (fI s a1 0)]) (r := []) rfl rfl rfl rfl rfl rfl g18 (wc_mono H (Nat.le_refl _) ?_)
      rintro _ s19 ⟨r20, rfl, H⟩
      show wk iv L h0 (d + 1) 240 69 [lr a0, lr a1, li a2, li a3] [vr r20] s19 (qa F)
      refine w_goto rfl ?_
      exact w_aret rfl rfl ⟨_, rfl, H⟩
  have J84 : (fI s a1 1 < 4 ∨ 6 < fI s a1 1) → wk iv L h0 (d + 1) 240 84 [lr a0, lr a1, li a2, li a3] [] s (qa F) := fun h => by
    replace H := H.2.2.2 h
    refine w_aload_n rfl rfl ?_
    obtain ⟨g21, H⟩ := H
    refine c_getr rfl rfl rfl g21 ?_
    refine w_iconst (n := 1) rfl rfl ?_
    refine w_iload_n rfl rfl ?_
    refine w_iload_n rfl rfl ?_
    refine w_icmp_ge rfl (fun h => ?_) (fun h => ?_)
    · replace H := H.1 h
      refine w_iconst (n := 0) rfl rfl ?_
      obtain ⟨g22, H⟩ := H
      refine c_virt (p := (fR s a0 0)) (as := [vi 1, vi 0]) (r := []) rfl rfl rfl rfl rfl rfl g22 (wc_mono H (Nat.le_refl _) ?_)
      rintro _ s23 ⟨r24, rfl, H⟩
      show wk iv L h0 (d + 1) 240 102 [lr a0, lr a1, li a2, li a3] [vr r24] s23 (qa F)
      exact w_aret rfl rfl ⟨_, rfl, H⟩
    · replace H := H.2 h
      refine w_iconst (n := 1) rfl rfl ?_
      refine w_goto rfl ?_
      obtain ⟨g25, H⟩ := H
      refine c_virt (p := (fR s a0 0)) (as := [vi 1, vi 1]) (r := []) rfl rfl rfl rfl rfl rfl g25 (wc_mono H (Nat.le_refl _) ?_)
      rintro _ s26 ⟨r27, rfl, H⟩
      show wk iv L h0 (d + 1) 240 102 [lr a0, lr a1, li a2, li a3] [vr r27] s26 (qa F)
      exact w_aret rfl rfl ⟨_, rfl, H⟩
  refine w_tsw (td := 84) (ts := [32, 44, 56]) rfl rfl rfl rfl rfl rfl (fun h => J84 (by omega)) ?_
  exact swA_c (fun h => J32 (by omega)) (swA_c (fun h => J44 (by omega)) (swA_c (fun h => J56 (by omega)) (swA_n)))

/-- HoleDesk$Worker.goOn(LHoleDesk$Value;I)LHoleDesk$Value; -/
theorem C241 {iv : List (Int × Int)} {L : Nat} {h0 : MH} {d : Nat} {s : SC} {a0 : Nat} {a1 : Nat} {a2 : Int} {F : Nat → SC → Prop} (H : (kl s a0 = 11) ∧ ck iv L h0 d 233 [vr a0, vi a2] s (qi fun r3 s2 => ((r3 = 0 → (kl s2 a0 = 11) ∧ (-2147483648 ≤ (fI s2 a0 3) + 1 ∧ (fI s2 a0 3) + 1 ≤ 2147483647) ∧ (kl s2 a1 = 10) ∧ ((fI s2 a1 0 = 2 ∨ fI s2 a1 0 = 4 → (-2147483648 ≤ a2 + 1 ∧ a2 + 1 ≤ 2147483647) ∧ ck iv L h0 d 242 [vr a0, vr a1, vi (a2 + 1)] (uI s2 a0 3 ((fI s2 a0 3) + 1)) (qa fun r9 s8 => F r9 s8)) ∧ (fI s2 a1 0 = 3 ∨ fI s2 a1 0 = 7 → (-2147483648 ≤ a2 + 1 ∧ a2 + 1 ≤ 2147483647) ∧ ck iv L h0 d 243 [vr a0, vr a1, vi (a2 + 1)] (uI s2 a0 3 ((fI s2 a0 3) + 1)) (qa fun r12 s11 => F r12 s11)) ∧ (fI s2 a1 0 = 5 ∨ fI s2 a1 0 < 2 ∨ 7 < fI s2 a1 0 → (kl s2 (fR s2 a0 0) = 6) ∧ ck iv L h0 d 196 [vr (fR s2 a0 0), vi (fI s2 a1 0), vi (fI s2 a1 1)] (uI s2 a0 3 ((fI s2 a0 3) + 1)) (qa fun r15 s14 => F r15 s14)) ∧ (fI s2 a1 0 = 6 → (-2147483648 ≤ a2 + 1 ∧ a2 + 1 ≤ 2147483647) ∧ ck iv L h0 d 241 [vr a0, vr (fR s2 a1 3), vi (a2 + 1)] (uI s2 a0 3 ((fI s2 a0 3) + 1)) (qa fun r18 s17 => ((r18 ≠ 2 → (kl s17 a0 = 11) ∧ (kl s17 (fR s17 a0 0) = 6) ∧ ck iv L h0 d 199 [vr (fR s17 a0 0), vr r18] s17 (qa fun r22 s21 => F r22 s21)) ∧ (r18 = 2 → F 2 s17)))))) ∧ (r3 ≠ 0 → (kl s2 a0 = 11) ∧ ck iv L h0 d 232 [vr a0, vi 4, vi (-9)] s2 (qa fun r25 s24 => F r25 s24))))) : ck iv L h0 (d + 1) 241 [vr a0, vr a1, vi a2] s (qa F) := by
  show wk iv L h0 (d + 1) 241 0 [lr a0, lr a1, li a2] [] s (qa F)
  refine w_aload_n rfl rfl ?_
  refine w_iload_n rfl rfl ?_
  obtain ⟨g1, H⟩ := H
  refine c_virt (p := a0) (as := [vi a2]) (r := []) rfl rfl rfl rfl rfl rfl g1 (wc_mono H (Nat.le_refl _) ?_)
  rintro _ s2 ⟨r3, rfl, H⟩
  show wk iv L h0 (d + 1) 241 5 [lr a0, lr a1, li a2] [vi r3] s2 (qa F)
  refine w_if_eq rfl (fun h => ?_) (fun h => ?_)
  · replace H := H.1 h
    refine w_aload_n rfl rfl ?_
    refine w_dup rfl rfl ?_
    obtain ⟨g4, H⟩ := H
    refine c_get rfl rfl rfl g4 ?_
    refine w_iconst (n := 1) rfl rfl ?_
    obtain ⟨g5, H⟩ := H
    refine w_iadd rfl g5 ?_
    refine c_put rfl rfl rfl rfl g4 ?_
    refine w_aload_n rfl rfl ?_
    obtain ⟨g6, H⟩ := H
    refine c_get rfl rfl rfl g6 ?_
    show wk iv L h0 (d + 1) 241 30 [lr a0, lr a1, li a2] [vi (fI s2 a1 0)] (uI s2 a0 3 ((fI s2 a0 3) + 1)) (qa F)
    have J68 : (fI s2 a1 0 = 2 ∨ fI s2 a1 0 = 4) → wk iv L h0 (d + 1) 241 68 [lr a0, lr a1, li a2] [] (uI s2 a0 3 ((fI s2 a0 3) + 1)) (qa F) := fun h => by
      replace H := H.1 h
      refine w_aload_n rfl rfl ?_
      refine w_aload_n rfl rfl ?_
      refine w_iload_n rfl rfl ?_
      refine w_iconst (n := 1) rfl rfl ?_
      obtain ⟨g7, H⟩ := H
      refine w_iadd rfl g7 ?_
      refine c_virt (p := a0) (as := [vr a1, vi (a2 + 1)]) (r := []) rfl rfl rfl rfl rfl rfl g4 (wc_mono H (Nat.le_refl _) ?_)
      rintro _ s8 ⟨r9, rfl, H⟩
      show wk iv L h0 (d + 1) 241 76 [lr a0, lr a1, li a2] [vr r9] s8 (qa F)
      exact w_aret rfl rfl ⟨_, rfl, H⟩
    have J77 : (fI s2 a1 0 = 3 ∨ fI s2 a1 0 = 7) → wk iv L h0 (d + 1) 241 77 [lr a0, lr a1, li a2] [] (uI s2 a0 3 ((fI s2 a0 3) + 1)) (qa F) := fun h => by
      replace H := H.2.1 h
      refine w_aload_n rfl rfl ?_
      refine w_aload_n rfl rfl ?_
      refine w_iload_n rfl rfl ?_
      refine w_iconst (n := 1) rfl rfl ?_
      obtain ⟨g10, H⟩ := H
      refine w_iadd rfl g10 ?_
      refine c_virt (p := a0) (as := [vr a1, vi (a2 + 1)]) (r := []) rfl rfl rfl rfl rfl rfl g4 (wc_mono H (Nat.le_refl _) ?_)
      rintro _ s11 ⟨r12, rfl, H⟩
      show wk iv L h0 (d + 1) 241 85 [lr a0, lr a1, li a2] [vr r12] s11 (qa F)
      exact w_aret rfl rfl ⟨_, rfl, H⟩
    have J115 : (fI s2 a1 0 = 5 ∨ fI s2 a1 0 < 2 ∨ 7 < fI s2 a1 0) → wk iv L h0 (d + 1) 241 115 [lr a0, lr a1, li a2] [] (uI s2 a0 3 ((fI s2 a0 3) + 1)) (qa F) := fun h => by
      replace H := H.2.2.1 h
      refine w_aload_n rfl rfl ?_
      refine c_getr rfl rfl rfl g4 ?_
      show wk iv L h0 (d + 1) 241 119 [lr a0, lr a1, li a2] [vr (fR s2 a0 0)] (uI s2 a0 3 ((fI s2 a0 3) + 1)) (qa F)
      refine w_aload_n rfl rfl ?_
      refine c_get rfl rfl rfl g6 ?_
      show wk iv L h0 (d + 1) 241 123 [lr a0, lr a1, li a2] [vi (fI s2 a1 0), vr (fR s2 a0 0)] (uI s2 a0 3 ((fI s2 a0 3) + 1)) (qa F)
      refine w_aload_n rfl rfl ?_
      refine c_get rfl rfl rfl g6 ?_
      show wk iv L h0 (d + 1) 241 127 [lr a0, lr a1, li a2] [vi (fI s2 a1 1), vi (fI s2 a1 0), vr (fR s2 a0 0)] (uI s2 a0 3 ((fI s2 a0 3) + 1)) (qa F)
      obtain ⟨g13, H⟩ := H
      refine c_virt (p := (fR s2 a0 0)) (as := [vi (fI s2 a1 0), vi (fI s2 a1 1)]) (r := []) rfl rfl rfl rfl rfl rfl g13 (wc_mono H (Nat.le_refl _) ?_)
      rintro _ s14 ⟨r15, rfl, H⟩
      show wk iv L h0 (d + 1) 241 130 [lr a0, lr a1, li a2] [vr r15] s14 (qa F)
      exact w_aret rfl rfl ⟨_, rfl, H⟩
    have J86 : (fI s2 a1 0 = 6) → wk iv L h0 (d + 1) 241 86 [lr a0, lr a1, li a2] [] (uI s2 a0 3 ((fI s2 a0 3) + 1)) (qa F) := fun h => by
      replace H := H.2.2.2 h
      refine w_aload_n rfl rfl ?_
      refine w_aload_n rfl rfl ?_
      refine c_getr rfl rfl rfl g6 ?_
      show wk iv L h0 (d + 1) 241 91 [lr a0, lr a1, li a2] [vr (fR s2 a1 3), vr a0] (uI s2 a0 3 ((fI s2 a0 3) + 1)) (qa F)
      refine w_iload_n rfl rfl ?_
      refine w_iconst (n := 1) rfl rfl ?_
      obtain ⟨g16, H⟩ := H
      refine w_iadd rfl g16 ?_
      refine c_virt (p := a0) (as := [vr (fR s2 a1 3), vi (a2 + 1)]) (r := []) rfl rfl rfl rfl rfl rfl g4 (wc_mono H (Nat.le_refl _) ?_)
      rintro _ s17 ⟨r18, rfl, H⟩
      show wk iv L h0 (d + 1) 241 97 [lr a0, lr a1, li a2] [vr r18] s17 (qa F)
      refine w_astore_n rfl rfl ?_
      refine w_aload_n rfl rfl ?_
      refine c_nonnull rfl (fun h => ?_) (fun h => ?_)
      · replace H := H.1 h
        refine w_aload_n rfl rfl ?_
        obtain ⟨g19, H⟩ := H
        refine c_getr rfl rfl rfl g19 ?_
        refine w_aload_n rfl rfl ?_
        obtain ⟨g20, H⟩ := H
        refine c_virt (p := (fR s17 a0 0)) (as := [vr r18]) (r := []) rfl rfl rfl rfl rfl rfl g20 (wc_mono H (Nat.le_refl _) ?_)
        rintro _ s21 ⟨r22, rfl, H⟩
        show wk iv L h0 (d + 1) 241 114 [lr a0, lr a1, li a2, lr r18] [vr r22] s21 (qa F)
        exact w_aret rfl rfl ⟨_, rfl, H⟩
      · replace H := H.2 h
        refine w_null rfl ?_
        refine w_goto rfl ?_
        exact w_aret rfl rfl ⟨_, rfl, H⟩
    refine w_tsw (td := 115) (ts := [68, 77, 68, 115, 86, 77]) rfl rfl rfl rfl rfl rfl (fun h => J115 (by omega)) ?_
    exact swA_c (fun h => J68 (by omega)) (swA_c (fun h => J77 (by omega)) (swA_c (fun h => J68 (by omega)) (swA_c (fun h => J115 (by omega)) (swA_c (fun h => J86 (by omega)) (swA_c (fun h => J77 (by omega)) (swA_n))))))
  · replace H := H.2 h
    refine w_aload_n rfl rfl ?_
    refine w_iconst (n := 4) rfl rfl ?_
    refine w_bipush (n := (-9)) rfl rfl rfl ?_
    obtain ⟨g23, H⟩ := H
    refine c_virt (p := a0) (as := [vi 4, vi (-9)]) (r := []) rfl rfl rfl rfl rfl rfl g23 (wc_mono H (Nat.le_refl _) ?_)
    rintro _ s24 ⟨r25, rfl, H⟩
    show wk iv L h0 (d + 1) 241 15 [lr a0, lr a1, li a2] [vr r25] s24 (qa F)
    exact w_aret rfl rfl ⟨_, rfl, H⟩

/-- HoleDesk$Worker.goOnSeeing(LHoleDesk$Value;I)LHoleDesk$Value; -/
theorem C242 {iv : List (Int × Int)} {L : Nat} {h0 : MH} {d : Nat} {s : SC} {a0 : Nat} {a1 : Nat} {a2 : Int} {F : Nat → SC → Prop} (H : (kl s a1 = 10) ∧ (kl s a0 = 11) ∧ ck iv L h0 d 244 [vr a0, vr (fR s a1 5), vi a2] s (qa fun r4 s3 => (kl s3 a0 = 11) ∧ ((fI s3 a0 4 = (-1) → (kl s3 a1 = 10) ∧ (kl s3 (fR s3 a1 2) = 5) ∧ ck iv L h0 d 190 [vr (fR s3 a1 2)] s3 (qa fun r9 s8 => ((r9 ≠ 2 → (kl s8 a0 = 11) ∧ ck iv L h0 d 234 [vr a0, vr r9, vr r4, vi a2] s8 (qa fun r12 s11 => F r12 s11)) ∧ (r9 = 2 → (kl s8 a0 = 11) ∧ (kl s8 a1 = 10) ∧ (kl s8 (fR s8 a0 0) = 6) ∧ ck iv L h0 d 197 [vr (fR s8 a0 0), vi (fI s8 a1 0), vr (fR s8 a1 2), vr r4] s8 (qa fun r17 s16 => F r17 s16))))) ∧ (fI s3 a0 4 ≠ (-1) → F 2 s3)))) : ck iv L h0 (d + 1) 242 [vr a0, vr a1, vi a2] s (qa F) := by
  show wk iv L h0 (d + 1) 242 0 [lr a0, lr a1, li a2] [] s (qa F)
  refine w_aload_n rfl rfl ?_
  refine w_aload_n rfl rfl ?_
  obtain ⟨g1, H⟩ := H
  refine c_getr rfl rfl rfl g1 ?_
  refine w_iload_n rfl rfl ?_
  obtain ⟨g2, H⟩ := H
  refine c_virt (p := a0) (as := [vr (fR s a1 5), vi a2]) (r := []) rfl rfl rfl rfl rfl rfl g2 (wc_mono H (Nat.le_refl _) ?_)
  rintro _ s3 ⟨r4, rfl, H⟩
  show wk iv L h0 (d + 1) 242 9 [lr a0, lr a1, li a2] [vr r4] s3 (qa F)
  refine w_astore_n rfl rfl ?_
  refine w_aload_n rfl rfl ?_
  obtain ⟨g5, H⟩ := H
  refine c_get rfl rfl rfl g5 ?_
  refine w_iconst (n := (-1)) rfl rfl ?_
  refine w_icmp_eq rfl (fun h => ?_) (fun h => ?_)
  · replace H := H.1 h
    refine w_aload_n rfl rfl ?_
    obtain ⟨g6, H⟩ := H
    refine c_getr rfl rfl rfl g6 ?_
    obtain ⟨g7, H⟩ := H
    refine c_virt (p := (fR s3 a1 2)) (as := []) (r := []) rfl rfl rfl rfl rfl rfl g7 (wc_mono H (Nat.le_refl _) ?_)
    rintro _ s8 ⟨r9, rfl, H⟩
    show wk iv L h0 (d + 1) 242 27 [lr a0, lr a1, li a2, lr r4] [vr r9] s8 (qa F)
    refine w_astore rfl rfl ?_
    refine w_aload rfl rfl ?_
    refine c_nonnull rfl (fun h => ?_) (fun h => ?_)
    · replace H := H.1 h
      refine w_aload_n rfl rfl ?_
      refine w_aload rfl rfl ?_
      refine w_aload_n rfl rfl ?_
      refine w_iload_n rfl rfl ?_
      obtain ⟨g10, H⟩ := H
      refine c_virt (p := a0) (as := [vr r9, vr r4, vi a2]) (r := []) rfl rfl rfl rfl rfl rfl g10 (wc_mono H (Nat.le_refl _) ?_)
      rintro _ s11 ⟨r12, rfl, H⟩
      show wk iv L h0 (d + 1) 242 61 [lr a0, lr a1, li a2, lr r4, lr r9] [vr r12] s11 (qa F)
      exact w_aret rfl rfl ⟨_, rfl, H⟩
    · replace H := H.2 h
      refine w_aload_n rfl rfl ?_
      obtain ⟨g13, H⟩ := H
      refine c_getr rfl rfl rfl g13 ?_
      refine w_aload_n rfl rfl ?_
      obtain ⟨g14, H⟩ := H
      refine c_get rfl rfl rfl g14 ?_
      refine w_aload_n rfl rfl ?_
      refine c_getr rfl rfl rfl g14 ?_
      refine w_aload_n rfl rfl ?_
      obtain ⟨g15, H⟩ := H
      refine c_virt (p := (fR s8 a0 0)) (as := [vi (fI s8 a1 0), vr (fR s8 a1 2), vr r4]) (r := []) rfl rfl rfl rfl rfl rfl g15 (wc_mono H (Nat.le_refl _) ?_)
      rintro _ s16 ⟨r17, rfl, H⟩
      show wk iv L h0 (d + 1) 242 50 [lr a0, lr a1, li a2, lr r4, lr r9] [vr r17] s16 (qa F)
      refine w_goto rfl ?_
      exact w_aret rfl rfl ⟨_, rfl, H⟩
  · replace H := H.2 h
    refine w_null rfl ?_
    exact w_aret rfl rfl ⟨_, rfl, H⟩

/-- HoleDesk$Worker.goOnAct(LHoleDesk$Value;I)LHoleDesk$Value; -/
theorem C243 {iv : List (Int × Int)} {L : Nat} {h0 : MH} {d : Nat} {s : SC} {a0 : Nat} {a1 : Nat} {a2 : Int} {F : Nat → SC → Prop} (H : (kl s a1 = 10) ∧ (kl s a0 = 11) ∧ ck iv L h0 d 241 [vr a0, vr (fR s a1 3), vi a2] s (qa fun r4 s3 => ((r4 = 2 → ((r4 = 2 → F 2 s3) ∧ (r4 ≠ 2 → (kl s3 a1 = 10) ∧ ((fR s3 a1 4 = 2 → ((fI s3 a1 0 ≠ 3 → (kl s3 a0 = 11) ∧ ck iv L h0 d 244 [vr a0, vr (fR s3 a1 5), vi a2] s3 (qa fun r8 s7 => (kl s7 a0 = 11) ∧ ((fI s7 a0 4 ≠ (-1) → F 2 s7) ∧ (fI s7 a0 4 = (-1) → (kl s7 a1 = 10) ∧ ck iv L h0 d 239 [vr a0, vr (fR s7 a1 2), vr r4, vr 2, vr r8, vi a2] s7 (qa fun r12 s11 => F r12 s11))))) ∧ (fI s3 a1 0 = 3 → F 2 s3))) ∧ (fR s3 a1 4 ≠ 2 → F 2 s3))))) ∧ (r4 ≠ 2 → (kl s3 a1 = 10) ∧ ((fR s3 a1 4 ≠ 2 → (kl s3 a0 = 11) ∧ ck iv L h0 d 241 [vr a0, vr (fR s3 a1 4), vi a2] s3 (qa fun r16 s15 => ((r4 = 2 → F 2 s15) ∧ (r4 ≠ 2 → (kl s15 a1 = 10) ∧ ((fR s15 a1 4 = 2 → ((fI s15 a1 0 ≠ 3 → (kl s15 a0 = 11) ∧ ck iv L h0 d 244 [vr a0, vr (fR s15 a1 5), vi a2] s15 (qa fun r20 s19 => (kl s19 a0 = 11) ∧ ((fI s19 a0 4 ≠ (-1) → F 2 s19) ∧ (fI s19 a0 4 = (-1) → (kl s19 a1 = 10) ∧ ck iv L h0 d 239 [vr a0, vr (fR s19 a1 2), vr r4, vr r16, vr r20, vi a2] s19 (qa fun r24 s23 => F r24 s23))))) ∧ (fI s15 a1 0 = 3 → ((r16 ≠ 2 → (kl s15 a0 = 11) ∧ (kl s15 (fR s15 a0 0) = 6) ∧ ck iv L h0 d 198 [vr (fR s15 a0 0), vr r4, vr r16] s15 (qa fun r28 s27 => F r28 s27)) ∧ (r16 = 2 → F 2 s15))))) ∧ (fR s15 a1 4 ≠ 2 → ((r16 ≠ 2 → ((fI s15 a1 0 ≠ 3 → (kl s15 a0 = 11) ∧ ck iv L h0 d 244 [vr a0, vr (fR s15 a1 5), vi a2] s15 (qa fun r31 s30 => (kl s30 a0 = 11) ∧ ((fI s30 a0 4 ≠ (-1) → F 2 s30) ∧ (fI s30 a0 4 = (-1) → (kl s30 a1 = 10) ∧ ck iv L h0 d 239 [vr a0, vr (fR s30 a1 2), vr r4, vr r16, vr r31, vi a2] s30 (qa fun r35 s34 => F r35 s34))))) ∧ (fI s15 a1 0 = 3 → ((r16 ≠ 2 → (kl s15 a0 = 11) ∧ (kl s15 (fR s15 a0 0) = 6) ∧ ck iv L h0 d 198 [vr (fR s15 a0 0), vr r4, vr r16] s15 (qa fun r39 s38 => F r39 s38)) ∧ (r16 = 2 → F 2 s15))))) ∧ (r16 = 2 → F 2 s15)))))))) ∧ (fR s3 a1 4 = 2 → ((r4 = 2 → F 2 s3) ∧ (r4 ≠ 2 → ((fR s3 a1 4 = 2 → ((fI s3 a1 0 ≠ 3 → (kl s3 a0 = 11) ∧ ck iv L h0 d 244 [vr a0, vr (fR s3 a1 5), vi a2] s3 (qa fun r42 s41 => (kl s41 a0 = 11) ∧ ((fI s41 a0 4 ≠ (-1) → F 2 s41) ∧ (fI s41 a0 4 = (-1) → (kl s41 a1 = 10) ∧ ck iv L h0 d 239 [vr a0, vr (fR s41 a1 2), vr r4, vr 2, vr r42, vi a2] s41 (qa fun r46 s45 => F r46 s45))))) ∧ (fI s3 a1 0 = 3 → F 2 s3))) ∧ (fR s3 a1 4 ≠ 2 → F 2 s3)))))))))) : ck iv L h0 (d + 1) 243 [vr a0, vr a1, vi a2] s (qa F) := by
  show wk iv L h0 (d + 1) 243 0 [lr a0, lr a1, li a2] [] s (qa F)
  refine w_aload_n rfl rfl ?_
  refine w_aload_n rfl rfl ?_
  obtain ⟨g1, H⟩ := H
  refine c_getr rfl rfl rfl g1 ?_
  refine w_iload_n rfl rfl ?_
  obtain ⟨g2, H⟩ := H
  refine c_virt (p := a0) (as := [vr (fR s a1 3), vi a2]) (r := []) rfl rfl rfl rfl rfl rfl g2 (wc_mono H (Nat.le_refl _) ?_)
  rintro _ s3 ⟨r4, rfl, H⟩
  show wk iv L h0 (d + 1) 243 9 [lr a0, lr a1, li a2] [vr r4] s3 (qa F)
  refine w_astore_n rfl rfl ?_
  refine w_aload_n rfl rfl ?_
  refine c_null rfl (fun h => ?_) (fun h => ?_)
  · replace H := H.1 h
    refine w_null rfl ?_
    refine w_goto rfl ?_
    refine w_astore rfl rfl ?_
    refine w_aload_n rfl rfl ?_
    refine c_null rfl (fun h => ?_) (fun h => ?_)
    · replace H := H.1 h
      refine w_null rfl ?_
      exact w_aret rfl rfl ⟨_, rfl, H⟩
    · replace H := H.2 h
      refine w_aload_n rfl rfl ?_
      obtain ⟨g5, H⟩ := H
      refine c_getr rfl rfl rfl g5 ?_
      refine c_null rfl (fun h => ?_) (fun h => ?_)
      · replace H := H.1 h
        refine w_aload_n rfl rfl ?_
        refine c_get rfl rfl rfl g5 ?_
        refine w_iconst (n := 3) rfl rfl ?_
        refine w_icmp_ne rfl (fun h => ?_) (fun h => ?_)
        · replace H := H.1 h
          refine w_aload_n rfl rfl ?_
          refine w_aload_n rfl rfl ?_
          refine c_getr rfl rfl rfl g5 ?_
          refine w_iload_n rfl rfl ?_
          obtain ⟨g6, H⟩ := H
          refine c_virt (p := a0) (as := [vr (fR s3 a1 5), vi a2]) (r := []) rfl rfl rfl rfl rfl rfl g6 (wc_mono H (Nat.le_refl _) ?_)
          rintro _ s7 ⟨r8, rfl, H⟩
          show wk iv L h0 (d + 1) 243 91 [lr a0, lr a1, li a2, lr r4, lr 2] [vr r8] s7 (qa F)
          refine w_astore rfl rfl ?_
          refine w_aload_n rfl rfl ?_
          obtain ⟨g9, H⟩ := H
          refine c_get rfl rfl rfl g9 ?_
          refine w_iconst (n := (-1)) rfl rfl ?_
          refine w_icmp_ne rfl (fun h => ?_) (fun h => ?_)
          · replace H := H.1 h
            refine w_null rfl ?_
            exact w_aret rfl rfl ⟨_, rfl, H⟩
          · replace H := H.2 h
            refine w_aload_n rfl rfl ?_
            refine w_aload_n rfl rfl ?_
            obtain ⟨g10, H⟩ := H
            refine c_getr rfl rfl rfl g10 ?_
            refine w_aload_n rfl rfl ?_
            refine w_aload rfl rfl ?_
            refine w_aload rfl rfl ?_
            refine w_iload_n rfl rfl ?_
            refine c_virt (p := a0) (as := [vr (fR s7 a1 2), vr r4, vr 2, vr r8, vi a2]) (r := []) rfl rfl rfl rfl rfl rfl g9 (wc_mono H (Nat.le_refl _) ?_)
            rintro _ s11 ⟨r12, rfl, H⟩
            show wk iv L h0 (d + 1) 243 115 [lr a0, lr a1, li a2, lr r4, lr 2, lr r8] [vr r12] s11 (qa F)
            refine w_goto rfl ?_
            exact w_aret rfl rfl ⟨_, rfl, H⟩
        · replace H := H.2 h
          refine w_aload rfl rfl ?_
          refine c_nonnull rfl (fun h => absurd h (by decide)) (fun _ => ?_)
          refine w_null rfl ?_
          refine w_goto rfl ?_
          exact w_aret rfl rfl ⟨_, rfl, H⟩
      · replace H := H.2 h
        refine w_aload rfl rfl ?_
        refine c_nonnull rfl (fun h => absurd h (by decide)) (fun _ => ?_)
        refine w_null rfl ?_
        exact w_aret rfl rfl ⟨_, rfl, H⟩
  · replace H := H.2 h
    refine w_aload_n rfl rfl ?_
    obtain ⟨g13, H⟩ := H
    refine c_getr rfl rfl rfl g13 ?_
    refine c_nonnull rfl (fun h => ?_) (fun h => ?_)
    · replace H := H.1 h
      refine w_aload_n rfl rfl ?_
      refine w_aload_n rfl rfl ?_
      refine c_getr rfl rfl rfl g13 ?_
      refine w_iload_n rfl rfl ?_
      obtain ⟨g14, H⟩ := H
      refine c_virt (p := a0) (as := [vr (fR s3 a1 4), vi a2]) (r := []) rfl rfl rfl rfl rfl rfl g14 (wc_mono H (Nat.le_refl _) ?_)
      rintro _ s15 ⟨r16, rfl, H⟩
      show wk iv L h0 (d + 1) 243 34 [lr a0, lr a1, li a2, lr r4] [vr r16] s15 (qa F)
      refine w_astore rfl rfl ?_
      refine w_aload_n rfl rfl ?_
      refine c_null rfl (fun h => ?_) (fun h => ?_)
      · replace H := H.1 h
        refine w_null rfl ?_
        exact w_aret rfl rfl ⟨_, rfl, H⟩
      · replace H := H.2 h
        refine w_aload_n rfl rfl ?_
        obtain ⟨g17, H⟩ := H
        refine c_getr rfl rfl rfl g17 ?_
        refine c_null rfl (fun h => ?_) (fun h => ?_)
        · replace H := H.1 h
          refine w_aload_n rfl rfl ?_
          refine c_get rfl rfl rfl g17 ?_
          refine w_iconst (n := 3) rfl rfl ?_
          refine w_icmp_ne rfl (fun h => ?_) (fun h => ?_)
          · replace H := H.1 h
            refine w_aload_n rfl rfl ?_
            refine w_aload_n rfl rfl ?_
            refine c_getr rfl rfl rfl g17 ?_
            refine w_iload_n rfl rfl ?_
            obtain ⟨g18, H⟩ := H
            refine c_virt (p := a0) (as := [vr (fR s15 a1 5), vi a2]) (r := []) rfl rfl rfl rfl rfl rfl g18 (wc_mono H (Nat.le_refl _) ?_)
            rintro _ s19 ⟨r20, rfl, H⟩
            show wk iv L h0 (d + 1) 243 91 [lr a0, lr a1, li a2, lr r4, lr r16] [vr r20] s19 (qa F)
            refine w_astore rfl rfl ?_
            refine w_aload_n rfl rfl ?_
            obtain ⟨g21, H⟩ := H
            refine c_get rfl rfl rfl g21 ?_
            refine w_iconst (n := (-1)) rfl rfl ?_
            refine w_icmp_ne rfl (fun h => ?_) (fun h => ?_)
            · replace H := H.1 h
              refine w_null rfl ?_
              exact w_aret rfl rfl ⟨_, rfl, H⟩
            · replace H := H.2 h
              refine w_aload_n rfl rfl ?_
              refine w_aload_n rfl rfl ?_
              obtain ⟨g22, H⟩ := H
              refine c_getr rfl rfl rfl g22 ?_
              refine w_aload_n rfl rfl ?_
              refine w_aload rfl rfl ?_
              refine w_aload rfl rfl ?_
              refine w_iload_n rfl rfl ?_
              refine c_virt (p := a0) (as := [vr (fR s19 a1 2), vr r4, vr r16, vr r20, vi a2]) (r := []) rfl rfl rfl rfl rfl rfl g21 (wc_mono H (Nat.le_refl _) ?_)
              rintro _ s23 ⟨r24, rfl, H⟩
              show wk iv L h0 (d + 1) 243 115 [lr a0, lr a1, li a2, lr r4, lr r16, lr r20] [vr r24] s23 (qa F)
              refine w_goto rfl ?_
              exact w_aret rfl rfl ⟨_, rfl, H⟩
          · replace H := H.2 h
            refine w_aload rfl rfl ?_
            refine c_nonnull rfl (fun h => ?_) (fun h => ?_)
            · replace H := H.1 h
              refine w_aload_n rfl rfl ?_
              obtain ⟨g25, H⟩ := H
              refine c_getr rfl rfl rfl g25 ?_
              refine w_aload_n rfl rfl ?_
              refine w_aload rfl rfl ?_
              obtain ⟨g26, H⟩ := H
              refine c_virt (p := (fR s15 a0 0)) (as := [vr r4, vr r16]) (r := []) rfl rfl rfl rfl rfl rfl g26 (wc_mono H (Nat.le_refl _) ?_)
              rintro _ s27 ⟨r28, rfl, H⟩
              show wk iv L h0 (d + 1) 243 81 [lr a0, lr a1, li a2, lr r4, lr r16] [vr r28] s27 (qa F)
              exact w_aret rfl rfl ⟨_, rfl, H⟩
            · replace H := H.2 h
              refine w_null rfl ?_
              refine w_goto rfl ?_
              exact w_aret rfl rfl ⟨_, rfl, H⟩
        · replace H := H.2 h
          refine w_aload rfl rfl ?_
          refine c_nonnull rfl (fun h => ?_) (fun h => ?_)
          · replace H := H.1 h
            refine w_aload_n rfl rfl ?_
            refine c_get rfl rfl rfl g17 ?_
            refine w_iconst (n := 3) rfl rfl ?_
            refine w_icmp_ne rfl (fun h => ?_) (fun h => ?_)
            · replace H := H.1 h
              refine w_aload_n rfl rfl ?_
              refine w_aload_n rfl rfl ?_
              refine c_getr rfl rfl rfl g17 ?_
              refine w_iload_n rfl rfl ?_
              obtain ⟨g29, H⟩ := H
              refine c_virt (p := a0) (as := [vr (fR s15 a1 5), vi a2]) (r := []) rfl rfl rfl rfl rfl rfl g29 (wc_mono H (Nat.le_refl _) ?_)
              rintro _ s30 ⟨r31, rfl, H⟩
              show wk iv L h0 (d + 1) 243 91 [lr a0, lr a1, li a2, lr r4, lr r16] [vr r31] s30 (qa F)
              refine w_astore rfl rfl ?_
              refine w_aload_n rfl rfl ?_
              obtain ⟨g32, H⟩ := H
              refine c_get rfl rfl rfl g32 ?_
              refine w_iconst (n := (-1)) rfl rfl ?_
              refine w_icmp_ne rfl (fun h => ?_) (fun h => ?_)
              · replace H := H.1 h
                refine w_null rfl ?_
                exact w_aret rfl rfl ⟨_, rfl, H⟩
              · replace H := H.2 h
                refine w_aload_n rfl rfl ?_
                refine w_aload_n rfl rfl ?_
                obtain ⟨g33, H⟩ := H
                refine c_getr rfl rfl rfl g33 ?_
                refine w_aload_n rfl rfl ?_
                refine w_aload rfl rfl ?_
                refine w_aload rfl rfl ?_
                refine w_iload_n rfl rfl ?_
                refine c_virt (p := a0) (as := [vr (fR s30 a1 2), vr r4, vr r16, vr r31, vi a2]) (r := []) rfl rfl rfl rfl rfl rfl g32 (wc_mono H (Nat.le_refl _) ?_)
                rintro _ s34 ⟨r35, rfl, H⟩
                show wk iv L h0 (d + 1) 243 115 [lr a0, lr a1, li a2, lr r4, lr r16, lr r31] [vr r35] s34 (qa F)
                refine w_goto rfl ?_
                exact w_aret rfl rfl ⟨_, rfl, H⟩
            · replace H := H.2 h
              refine w_aload rfl rfl ?_
              refine c_nonnull rfl (fun h => ?_) (fun h => ?_)
              · replace H := H.1 h
                refine w_aload_n rfl rfl ?_
                obtain ⟨g36, H⟩ := H
                refine c_getr rfl rfl rfl g36 ?_
                refine w_aload_n rfl rfl ?_
                refine w_aload rfl rfl ?_
                obtain ⟨g37, H⟩ := H
                refine c_virt (p := (fR s15 a0 0)) (as := [vr r4, vr r16]) (r := []) rfl rfl rfl rfl rfl rfl g37 (wc_mono H (Nat.le_refl _) ?_)
                rintro _ s38 ⟨r39, rfl, H⟩
                show wk iv L h0 (d + 1) 243 81 [lr a0, lr a1, li a2, lr r4, lr r16] [vr r39] s38 (qa F)
                exact w_aret rfl rfl ⟨_, rfl, H⟩
              · replace H := H.2 h
                refine w_null rfl ?_
                refine w_goto rfl ?_
                exact w_aret rfl rfl ⟨_, rfl, H⟩
          · replace H := H.2 h
            refine w_null rfl ?_
            exact w_aret rfl rfl ⟨_, rfl, H⟩
    · replace H := H.2 h
      refine w_null rfl ?_
      refine w_goto rfl ?_
      refine w_astore rfl rfl ?_
      refine w_aload_n rfl rfl ?_
      refine c_null rfl (fun h => ?_) (fun h => ?_)
      · replace H := H.1 h
        refine w_null rfl ?_
        exact w_aret rfl rfl ⟨_, rfl, H⟩
      · replace H := H.2 h
        refine w_aload_n rfl rfl ?_
        refine c_getr rfl rfl rfl g13 ?_
        refine c_null rfl (fun h => ?_) (fun h => ?_)
        · replace H := H.1 h
          refine w_aload_n rfl rfl ?_
          refine c_get rfl rfl rfl g13 ?_
          refine w_iconst (n := 3) rfl rfl ?_
          refine w_icmp_ne rfl (fun h => ?_) (fun h => ?_)
          · replace H := H.1 h
            refine w_aload_n rfl rfl ?_
            refine w_aload_n rfl rfl ?_
            refine c_getr rfl rfl rfl g13 ?_
            refine w_iload_n rfl rfl ?_
            obtain ⟨g40, H⟩ := H
            refine c_virt (p := a0) (as := [vr (fR s3 a1 5), vi a2]) (r := []) rfl rfl rfl rfl rfl rfl g40 (wc_mono H (Nat.le_refl _) ?_)
            rintro _ s41 ⟨r42, rfl, H⟩
            show wk iv L h0 (d + 1) 243 91 [lr a0, lr a1, li a2, lr r4, lr 2] [vr r42] s41 (qa F)
            refine w_astore rfl rfl ?_
            refine w_aload_n rfl rfl ?_
            obtain ⟨g43, H⟩ := H
            refine c_get rfl rfl rfl g43 ?_
            refine w_iconst (n := (-1)) rfl rfl ?_
            refine w_icmp_ne rfl (fun h => ?_) (fun h => ?_)
            · replace H := H.1 h
              refine w_null rfl ?_
              exact w_aret rfl rfl ⟨_, rfl, H⟩
            · replace H := H.2 h
              refine w_aload_n rfl rfl ?_
              refine w_aload_n rfl rfl ?_
              obtain ⟨g44, H⟩ := H
              refine c_getr rfl rfl rfl g44 ?_
              refine w_aload_n rfl rfl ?_
              refine w_aload rfl rfl ?_
              refine w_aload rfl rfl ?_
              refine w_iload_n rfl rfl ?_
              refine c_virt (p := a0) (as := [vr (fR s41 a1 2), vr r4, vr 2, vr r42, vi a2]) (r := []) rfl rfl rfl rfl rfl rfl g43 (wc_mono H (Nat.le_refl _) ?_)
              rintro _ s45 ⟨r46, rfl, H⟩
              show wk iv L h0 (d + 1) 243 115 [lr a0, lr a1, li a2, lr r4, lr 2, lr r42] [vr r46] s45 (qa F)
              refine w_goto rfl ?_
              exact w_aret rfl rfl ⟨_, rfl, H⟩
          · replace H := H.2 h
            refine w_aload rfl rfl ?_
            refine c_nonnull rfl (fun h => absurd h (by decide)) (fun _ => ?_)
            refine w_null rfl ?_
            refine w_goto rfl ?_
            exact w_aret rfl rfl ⟨_, rfl, H⟩
        · replace H := H.2 h
          refine w_aload rfl rfl ?_
          refine c_nonnull rfl (fun h => absurd h (by decide)) (fun _ => ?_)
          refine w_null rfl ?_
          exact w_aret rfl rfl ⟨_, rfl, H⟩
