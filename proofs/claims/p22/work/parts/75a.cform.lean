/-! What the methods of the desk come to. Printed by wip/gen2/gens.py. -/
/-- HoleDesk.<init>()V -/
theorem C1 {iv : List (Int × Int)} {L : Nat} {h0 : MH} {d : Nat} {s : SC} {a0 : Nat} {F : SC → Prop} (H : (a0 ≠ 2) ∧ (353 ≤ nxt s) ∧ (nxt s ≠ 2) ∧ ck iv L h0 d 174 [vr (nxt s)] (nO s 3) (qv fun s4 => (kl s4 a0 = 1) ∧ (353 ≤ nxt s4) ∧ (nxt s4 ≠ 2) ∧ ck iv L h0 d 203 [vr (nxt s4)] (nO (uR s4 a0 0 (nxt s)) 7) (qv fun s8 => (kl s8 a0 = 1) ∧ (353 ≤ nxt s8) ∧ (kl (nO s8 2) a0 = 1) ∧ (nxt s8 ≠ 2) ∧ ck iv L h0 d 162 [vr (nxt s8), vr (fR (nO s8 2) a0 0)] (nO (uR s8 a0 1 (nxt s4)) 2) (qv fun s13 => (kl s13 a0 = 1) ∧ (353 ≤ nxt s13) ∧ (nxt s13 ≠ 2) ∧ ck iv L h0 d 226 [vr (nxt s13)] (nO (uR s13 a0 2 (nxt s8)) 10) (qv fun s17 => (kl s17 a0 = 1) ∧ (353 ≤ nxt s17) ∧ (nxt s17 ≠ 2) ∧ ck iv L h0 d 245 [vr (nxt s17)] (nO (uR s17 a0 3 (nxt s13)) 11) (qv fun s21 => (kl s21 a0 = 1) ∧ (353 ≤ nxt s21) ∧ (nxt s21 ≠ 2) ∧ ck iv L h0 d 245 [vr (nxt s21)] (nO (uR s21 a0 4 (nxt s17)) 11) (qv fun s25 => (kl s25 a0 = 1) ∧ (353 ≤ nxt s25) ∧ (kl (nA s25 5 6) a0 = 1) ∧ (353 ≤ nxt s25 + 1) ∧ (kl (nA (nA s25 5 6) 3 16) a0 = 1) ∧ (353 ≤ nxt s25 + 2) ∧ (kl (nA (nA (nA s25 5 6) 3 16) 0 42) a0 = 1) ∧ (353 ≤ nxt s25 + 3) ∧ (kl (nA (nA (nA (nA s25 5 6) 3 16) 0 42) 0 42) a0 = 1) ∧ (353 ≤ nxt s25 + 4) ∧ (kl (nA (nA (nA (nA (nA s25 5 6) 3 16) 0 42) 0 42) 3 8) a0 = 1) ∧ (353 ≤ nxt s25 + 5) ∧ (kl (nA (nA (nA (nA (nA (nA s25 5 6) 3 16) 0 42) 0 42) 3 8) 0 6) a0 = 1) ∧ wk iv L h0 (d + 1) 1 159 [lr a0, li 0] [] (uI (uI (uI (uI (uR (nA (uR (nA (uR (nA (uR (nA (uR (nA (uR (nA (uR s25 a0 5 (nxt s21)) 5 6) a0 6 (nxt s25)) 3 16) a0 7 (nxt s25 + 1)) 0 42) a0 8 (nxt s25 + 2)) 0 42) a0 9 (nxt s25 + 3)) 3 8) a0 10 (nxt s25 + 4)) 0 6) a0 11 (nxt s25 + 5)) a0 12 0) a0 13 0) a0 14 0) a0 15 0) (qv F)))))))) : ck iv L h0 (d + 1) 1 [vr a0] s (qv F) := by
  show wk iv L h0 (d + 1) 1 0 [lr a0] [] s (qv F)
  refine w_aload_n rfl rfl ?_
  obtain ⟨g1, H⟩ := H
  refine c_oinit rfl rfl g1 ?_
  refine w_aload_n rfl rfl ?_
  obtain ⟨g2, H⟩ := H
  refine c_new rfl rfl g2 ?_
  show wk iv L h0 (d + 1) 1 8 [lr a0] [vr (nxt s), vr a0] (nO s 3) (qv F)
  refine w_dup rfl rfl ?_
  obtain ⟨g3, H⟩ := H
  refine c_spec (p := (nxt s)) (as := []) (r := [vr (nxt s), vr a0]) rfl rfl rfl rfl rfl g3 (wc_mono H (Nat.le_refl _) ?_)
  rintro _ s4 ⟨rfl, H⟩
  show wk iv L h0 (d + 1) 1 12 [lr a0] [vr (nxt s), vr a0] s4 (qv F)
  obtain ⟨g5, H⟩ := H
  refine c_putr rfl rfl rfl rfl g5 ?_
  refine w_aload_n rfl rfl ?_
  obtain ⟨g6, H⟩ := H
  refine c_new rfl rfl g6 ?_
  show wk iv L h0 (d + 1) 1 19 [lr a0] [vr (nxt s4), vr a0] (nO (uR s4 a0 0 (nxt s)) 7) (qv F)
  refine w_dup rfl rfl ?_
  obtain ⟨g7, H⟩ := H
  refine c_spec (p := (nxt s4)) (as := []) (r := [vr (nxt s4), vr a0]) rfl rfl rfl rfl rfl g7 (wc_mono H (Nat.le_refl _) ?_)
  rintro _ s8 ⟨rfl, H⟩
  show wk iv L h0 (d + 1) 1 23 [lr a0] [vr (nxt s4), vr a0] s8 (qv F)
  obtain ⟨g9, H⟩ := H
  refine c_putr rfl rfl rfl rfl g9 ?_
  refine w_aload_n rfl rfl ?_
  obtain ⟨g10, H⟩ := H
  refine c_new rfl rfl g10 ?_
  show wk iv L h0 (d + 1) 1 30 [lr a0] [vr (nxt s8), vr a0] (nO (uR s8 a0 1 (nxt s4)) 2) (qv F)
  refine w_dup rfl rfl ?_
  refine w_aload_n rfl rfl ?_
  obtain ⟨g11, H⟩ := H
  refine c_getr rfl rfl rfl g11 ?_
  show wk iv L h0 (d + 1) 1 35 [lr a0] [vr (fR (nO s8 2) a0 0), vr (nxt s8), vr (nxt s8), vr a0] (nO (uR s8 a0 1 (nxt s4)) 2) (qv F)
  obtain ⟨g12, H⟩ := H
  refine c_spec (p := (nxt s8)) (as := [vr (fR (nO s8 2) a0 0)]) (r := [vr (nxt s8), vr a0]) rfl rfl rfl rfl rfl g12 (wc_mono H (Nat.le_refl _) ?_)
  rintro _ s13 ⟨rfl, H⟩
  show wk iv L h0 (d + 1) 1 38 [lr a0] [vr (nxt s8), vr a0] s13 (qv F)
  obtain ⟨g14, H⟩ := H
  refine c_putr rfl rfl rfl rfl g14 ?_
  refine w_aload_n rfl rfl ?_
  obtain ⟨g15, H⟩ := H
  refine c_new rfl rfl g15 ?_
  show wk iv L h0 (d + 1) 1 45 [lr a0] [vr (nxt s13), vr a0] (nO (uR s13 a0 2 (nxt s8)) 10) (qv F)
  refine w_dup rfl rfl ?_
  obtain ⟨g16, H⟩ := H
  refine c_spec (p := (nxt s13)) (as := []) (r := [vr (nxt s13), vr a0]) rfl rfl rfl rfl rfl g16 (wc_mono H (Nat.le_refl _) ?_)
  rintro _ s17 ⟨rfl, H⟩
  show wk iv L h0 (d + 1) 1 49 [lr a0] [vr (nxt s13), vr a0] s17 (qv F)
  obtain ⟨g18, H⟩ := H
  refine c_putr rfl rfl rfl rfl g18 ?_
  refine w_aload_n rfl rfl ?_
  obtain ⟨g19, H⟩ := H
  refine c_new rfl rfl g19 ?_
  show wk iv L h0 (d + 1) 1 56 [lr a0] [vr (nxt s17), vr a0] (nO (uR s17 a0 3 (nxt s13)) 11) (qv F)
  refine w_dup rfl rfl ?_
  obtain ⟨g20, H⟩ := H
  refine c_spec (p := (nxt s17)) (as := []) (r := [vr (nxt s17), vr a0]) rfl rfl rfl rfl rfl g20 (wc_mono H (Nat.le_refl _) ?_)
  rintro _ s21 ⟨rfl, H⟩
  show wk iv L h0 (d + 1) 1 60 [lr a0] [vr (nxt s17), vr a0] s21 (qv F)
  obtain ⟨g22, H⟩ := H
  refine c_putr rfl rfl rfl rfl g22 ?_
  refine w_aload_n rfl rfl ?_
  obtain ⟨g23, H⟩ := H
  refine c_new rfl rfl g23 ?_
  show wk iv L h0 (d + 1) 1 67 [lr a0] [vr (nxt s21), vr a0] (nO (uR s21 a0 4 (nxt s17)) 11) (qv F)
  refine w_dup rfl rfl ?_
  obtain ⟨g24, H⟩ := H
  refine c_spec (p := (nxt s21)) (as := []) (r := [vr (nxt s21), vr a0]) rfl rfl rfl rfl rfl g24 (wc_mono H (Nat.le_refl _) ?_)
  rintro _ s25 ⟨rfl, H⟩
  show wk iv L h0 (d + 1) 1 71 [lr a0] [vr (nxt s21), vr a0] s25 (qv F)
  obtain ⟨g26, H⟩ := H
  refine c_putr rfl rfl rfl rfl g26 ?_
  refine w_aload_n rfl rfl ?_
  refine w_bipush (n := 6) rfl rfl rfl ?_
  obtain ⟨g27, H⟩ := H
  refine c_anewa rfl rfl ⟨by decide, by decide⟩ g27 ?_
  show wk iv L h0 (d + 1) 1 80 [lr a0] [vr (nxt s25), vr a0] (nA (uR s25 a0 5 (nxt s21)) 5 6) (qv F)
  obtain ⟨g28, H⟩ := H
  refine c_putr rfl rfl rfl rfl g28 ?_
  refine w_aload_n rfl rfl ?_
  refine w_getst rfl (by decide) ?_
  refine w_plen rfl ?_
  obtain ⟨g29, H⟩ := H
  refine c_anewa rfl rfl ⟨by decide, by decide⟩ g29 ?_
  show wk iv L h0 (d + 1) 1 91 [lr a0] [vr (nxt s25 + 1), vr a0] (nA (uR (nA (uR s25 a0 5 (nxt s21)) 5 6) a0 6 (nxt s25)) 3 16) (qv F)
  obtain ⟨g30, H⟩ := H
  refine c_putr rfl rfl rfl rfl g30 ?_
  refine w_aload_n rfl rfl ?_
  refine w_bipush (n := 26) rfl rfl rfl ?_
  refine w_getst rfl (by decide) ?_
  refine w_plen rfl ?_
  refine w_iadd rfl (rngB_ok rfl) ?_
  show wk iv L h0 (d + 1) 1 102 [lr a0] [vi 42, vr a0] (uR (nA (uR (nA (uR s25 a0 5 (nxt s21)) 5 6) a0 6 (nxt s25)) 3 16) a0 7 (nxt s25 + 1)) (qv F)
  obtain ⟨g31, H⟩ := H
  refine c_newa rfl rfl ⟨by decide, by decide⟩ g31 ?_
  show wk iv L h0 (d + 1) 1 104 [lr a0] [vr (nxt s25 + 2), vr a0] (nA (uR (nA (uR (nA (uR s25 a0 5 (nxt s21)) 5 6) a0 6 (nxt s25)) 3 16) a0 7 (nxt s25 + 1)) 0 42) (qv F)
  obtain ⟨g32, H⟩ := H
  refine c_putr rfl rfl rfl rfl g32 ?_
  refine w_aload_n rfl rfl ?_
  refine w_bipush (n := 26) rfl rfl rfl ?_
  refine w_getst rfl (by decide) ?_
  refine w_plen rfl ?_
  refine w_iadd rfl (rngB_ok rfl) ?_
  show wk iv L h0 (d + 1) 1 115 [lr a0] [vi 42, vr a0] (uR (nA (uR (nA (uR (nA (uR s25 a0 5 (nxt s21)) 5 6) a0 6 (nxt s25)) 3 16) a0 7 (nxt s25 + 1)) 0 42) a0 8 (nxt s25 + 2)) (qv F)
  obtain ⟨g33, H⟩ := H
  refine c_newa rfl rfl ⟨by decide, by decide⟩ g33 ?_
  show wk iv L h0 (d + 1) 1 117 [lr a0] [vr (nxt s25 + 3), vr a0] (nA (uR (nA (uR (nA (uR (nA (uR s25 a0 5 (nxt s21)) 5 6) a0 6 (nxt s25)) 3 16) a0 7 (nxt s25 + 1)) 0 42) a0 8 (nxt s25 + 2)) 0 42) (qv F)
  obtain ⟨g34, H⟩ := H
  refine c_putr rfl rfl rfl rfl g34 ?_
  refine w_aload_n rfl rfl ?_
  refine w_bipush (n := 8) rfl rfl rfl ?_
  obtain ⟨g35, H⟩ := H
  refine c_anewa rfl rfl ⟨by decide, by decide⟩ g35 ?_
  show wk iv L h0 (d + 1) 1 126 [lr a0] [vr (nxt s25 + 4), vr a0] (nA (uR (nA (uR (nA (uR (nA (uR (nA (uR s25 a0 5 (nxt s21)) 5 6) a0 6 (nxt s25)) 3 16) a0 7 (nxt s25 + 1)) 0 42) a0 8 (nxt s25 + 2)) 0 42) a0 9 (nxt s25 + 3)) 3 8) (qv F)
  obtain ⟨g36, H⟩ := H
  refine c_putr rfl rfl rfl rfl g36 ?_
  refine w_aload_n rfl rfl ?_
  refine w_bipush (n := 6) rfl rfl rfl ?_
  obtain ⟨g37, H⟩ := H
  refine c_newa rfl rfl ⟨by decide, by decide⟩ g37 ?_
  show wk iv L h0 (d + 1) 1 134 [lr a0] [vr (nxt s25 + 5), vr a0] (nA (uR (nA (uR (nA (uR (nA (uR (nA (uR (nA (uR s25 a0 5 (nxt s21)) 5 6) a0 6 (nxt s25)) 3 16) a0 7 (nxt s25 + 1)) 0 42) a0 8 (nxt s25 + 2)) 0 42) a0 9 (nxt s25 + 3)) 3 8) a0 10 (nxt s25 + 4)) 0 6) (qv F)
  obtain ⟨g38, H⟩ := H
  refine c_putr rfl rfl rfl rfl g38 ?_
  refine w_aload_n rfl rfl ?_
  refine w_iconst (n := 0) rfl rfl ?_
  refine c_put rfl rfl rfl rfl g38 ?_
  refine w_aload_n rfl rfl ?_
  refine w_iconst (n := 0) rfl rfl ?_
  refine c_put rfl rfl rfl rfl g38 ?_
  refine w_aload_n rfl rfl ?_
  refine w_iconst (n := 0) rfl rfl ?_
  refine c_put rfl rfl rfl rfl g38 ?_
  refine w_aload_n rfl rfl ?_
  refine w_iconst (n := 0) rfl rfl ?_
  refine c_putz rfl rfl rfl rfl (by decide) g38 ?_
  refine w_iconst (n := 0) rfl rfl ?_
  refine w_istore_n rfl rfl ?_
  exact wp_ls (sl_s (sl_s (sl_0))) H

/-- HoleDesk.<init>()V at 159 -/
theorem C1_159 {iv : List (Int × Int)} {L : Nat} {h0 : MH} {d : Nat} {s : SC} {l0 : Nat} {l1 : Int} {F : SC → Prop} (H : ((6 ≤ l1 → wk iv L h0 (d + 1) 1 186 [lr l0, li 1] [] s (qv F)) ∧ (l1 < 6 → (kl s l0 = 1) ∧ (353 ≤ nxt s) ∧ (nxt s ≠ 2) ∧ ck iv L h0 d 159 [vr (nxt s)] (nO s 1) (qv fun s4 => (kl s4 (fR s l0 6) = 105) ∧ (0 ≤ l1 ∧ l1 < le s4 (fR s l0 6)) ∧ (nxt s = 2 ∨ kl s4 (nxt s) = 2) ∧ (-2147483648 ≤ l1 + 1 ∧ l1 + 1 ≤ 2147483647) ∧ wk iv L h0 (d + 1) 1 159 [lr l0, li (l1 + 1)] [] (uB s4 (fR s l0 6) l1 (nxt s)) (qv F))))) : wk iv L h0 (d + 1) 1 159 [lr l0, li l1] [] s (qv F) := by
  refine w_iload_n rfl rfl ?_
  refine w_bipush (n := 6) rfl rfl rfl ?_
  refine w_icmp_ge rfl (fun h => ?_) (fun h => ?_)
  · replace H := H.1 h
    refine w_iconst (n := 1) rfl rfl ?_
    refine w_istore_n rfl rfl ?_
    exact wp_ls (sl_s (sl_s (sl_0))) H
  · replace H := H.2 h
    refine w_aload_n rfl rfl ?_
    obtain ⟨g1, H⟩ := H
    refine c_getr rfl rfl rfl g1 ?_
    refine w_iload_n rfl rfl ?_
    obtain ⟨g2, H⟩ := H
    refine c_new rfl rfl g2 ?_
    show wk iv L h0 (d + 1) 1 173 [lr l0, li l1] [vr (nxt s), vi l1, vr (fR s l0 6)] (nO s 1) (qv F)
    refine w_dup rfl rfl ?_
    obtain ⟨g3, H⟩ := H
    refine c_spec (p := (nxt s)) (as := []) (r := [vr (nxt s), vi l1, vr (fR s l0 6)]) rfl rfl rfl rfl rfl g3 (wc_mono H (Nat.le_refl _) ?_)
    rintro _ s4 ⟨rfl, H⟩
    show wk iv L h0 (d + 1) 1 177 [lr l0, li l1] [vr (nxt s), vi l1, vr (fR s l0 6)] s4 (qv F)
    obtain ⟨g5, H⟩ := H
    obtain ⟨g6, H⟩ := H
    obtain ⟨g7, H⟩ := H
    refine c_aast rfl rfl g5 g6 (by rcases g7 with e | e; exact Or.inl e; exact Or.inr ⟨e, by decide⟩) ?_
    obtain ⟨g8, H⟩ := H
    refine w_iinc rfl rfl rfl g8 ?_
    refine w_goto rfl ?_
    exact wp_ls (sl_s (sl_s (sl_0))) H

/-- HoleDesk.<init>()V at 186 -/
theorem C1_186 {iv : List (Int × Int)} {L : Nat} {h0 : MH} {d : Nat} {s : SC} {l0 : Nat} {l1 : Int} {F : SC → Prop} (H : (kl s l0 = 1) ∧ (100 ≤ kl s (fR s l0 7) ∧ kl s (fR s l0 7) < 108) ∧ ((le s (fR s l0 7) ≤ l1 → (kl s (fR s l0 1) = 8) ∧ (kl s (fR s l0 2) = 3) ∧ ck iv L h0 d 163 [vr (fR s l0 2), vr (fR s (fR s l0 1) 1)] s (qv fun s5 => F s5)) ∧ (l1 < le s (fR s l0 7) → ck iv L h0 d 55 [vi l1] s (qa fun r7 s6 => (kl s6 (fR s l0 7) = 103) ∧ (0 ≤ l1 ∧ l1 < le s6 (fR s l0 7)) ∧ (r7 = 2 ∨ kl s6 r7 = 5) ∧ (-2147483648 ≤ l1 + 1 ∧ l1 + 1 ≤ 2147483647) ∧ wk iv L h0 (d + 1) 1 186 [lr l0, li (l1 + 1)] [] (uB s6 (fR s l0 7) l1 r7) (qv F))))) : wk iv L h0 (d + 1) 1 186 [lr l0, li l1] [] s (qv F) := by
  refine w_iload_n rfl rfl ?_
  refine w_aload_n rfl rfl ?_
  obtain ⟨g1, H⟩ := H
  refine c_getr rfl rfl rfl g1 ?_
  obtain ⟨g2, H⟩ := H
  refine c_len rfl g2 ?_
  refine w_icmp_ge rfl (fun h => ?_) (fun h => ?_)
  · replace H := H.1 h
    refine w_aload_n rfl rfl ?_
    refine c_getr rfl rfl rfl g1 ?_
    refine w_aload_n rfl rfl ?_
    refine c_getr rfl rfl rfl g1 ?_
    obtain ⟨g3, H⟩ := H
    refine c_getr rfl rfl rfl g3 ?_
    obtain ⟨g4, H⟩ := H
    refine c_virt (p := (fR s l0 2)) (as := [vr (fR s (fR s l0 1) 1)]) (r := []) rfl rfl rfl rfl rfl rfl g4 (wc_mono H (Nat.le_refl _) ?_)
    rintro _ s5 ⟨rfl, H⟩
    show wk iv L h0 (d + 1) 1 225 [lr l0, li l1] [] s5 (qv F)
    exact w_ret rfl rfl ⟨rfl, H⟩
  · replace H := H.2 h
    refine w_aload_n rfl rfl ?_
    refine c_getr rfl rfl rfl g1 ?_
    refine w_iload_n rfl rfl ?_
    refine w_iload_n rfl rfl ?_
    refine w_static (as := [vi l1]) (r := [vi l1, vr (fR s l0 7)]) rfl rfl rfl rfl rfl (wc_mono H (Nat.le_refl _) ?_)
    rintro _ s6 ⟨r7, rfl, H⟩
    show wk iv L h0 (d + 1) 1 204 [lr l0, li l1] [vr r7, vi l1, vr (fR s l0 7)] s6 (qv F)
    obtain ⟨g8, H⟩ := H
    obtain ⟨g9, H⟩ := H
    obtain ⟨g10, H⟩ := H
    refine c_aast rfl rfl g8 g9 (by rcases g10 with e | e; exact Or.inl e; exact Or.inr ⟨e, by decide⟩) ?_
    obtain ⟨g11, H⟩ := H
    refine w_iinc rfl rfl rfl g11 ?_
    refine w_goto rfl ?_
    exact wp_ls (sl_s (sl_s (sl_0))) H

/-- HoleDesk.kind(ZII)I -/
theorem C2 {iv : List (Int × Int)} {L : Nat} {h0 : MH} {d : Nat} {s : SC} {a0 : Nat} {a1 : Int} {a2 : Int} {a3 : Int} {F : Int → SC → Prop} (H : ((a1 = 0 → (kl s a0 = 1) ∧ (kl s (fR s a0 0) = 4) ∧ ck iv L h0 d 176 [vr (fR s a0 0), vi a2] s (qi fun r4 s3 => ((r4 = 0 → F (-1) s3) ∧ (r4 ≠ 0 → (kl s3 a0 = 1) ∧ (kl s3 (fR s3 a0 0) = 4) ∧ ck iv L h0 d 176 [vr (fR s3 a0 0), vi a3] s3 (qi fun r8 s7 => ((r8 = 0 → F (-1) s7) ∧ (r8 ≠ 0 → (kl s7 a0 = 1) ∧ (kl s7 (fR s7 a0 0) = 4) ∧ ck iv L h0 d 177 [vr (fR s7 a0 0), vi a2, vi a3] s7 (qi fun r12 s11 => ((r12 ≤ 40 → (kl s11 a0 = 1) ∧ (kl s11 (fR s11 a0 0) = 4) ∧ ck iv L h0 d 178 [vr (fR s11 a0 0), vi 3, vi a2, vi a3] s11 (qi fun r16 s15 => ((r16 < 0 → (kl s15 a0 = 1) ∧ (kl s15 (fR s15 a0 0) = 4) ∧ ((fI s15 (fR s15 a0 0) 4 < 40 → ck iv L h0 d 179 [vr (fR s15 a0 0), vi 3, vi a2, vi a3] s15 (qi fun r20 s19 => F r20 s19)) ∧ (40 ≤ fI s15 (fR s15 a0 0) 4 → F (-2) s15))) ∧ (0 ≤ r16 → F r16 s15)))) ∧ (40 < r12 → F (-1) s11)))))))))) ∧ (a1 ≠ 0 → (kl s a0 = 1) ∧ (kl s (fR s a0 0) = 4) ∧ ck iv L h0 d 176 [vr (fR s a0 0), vi a2] s (qi fun r24 s23 => ((r24 = 0 → F (-1) s23) ∧ (r24 ≠ 0 → (kl s23 a0 = 1) ∧ (kl s23 (fR s23 a0 0) = 4) ∧ ck iv L h0 d 176 [vr (fR s23 a0 0), vi a3] s23 (qi fun r28 s27 => ((r28 = 0 → F (-1) s27) ∧ (r28 ≠ 0 → (kl s27 a0 = 1) ∧ (kl s27 (fR s27 a0 0) = 4) ∧ ck iv L h0 d 177 [vr (fR s27 a0 0), vi a2, vi a3] s27 (qi fun r32 s31 => ((r32 ≤ 40 → (kl s31 a0 = 1) ∧ (kl s31 (fR s31 a0 0) = 4) ∧ ck iv L h0 d 178 [vr (fR s31 a0 0), vi 4, vi a2, vi a3] s31 (qi fun r36 s35 => ((r36 < 0 → (kl s35 a0 = 1) ∧ (kl s35 (fR s35 a0 0) = 4) ∧ ((fI s35 (fR s35 a0 0) 4 < 40 → ck iv L h0 d 179 [vr (fR s35 a0 0), vi 4, vi a2, vi a3] s35 (qi fun r40 s39 => F r40 s39)) ∧ (40 ≤ fI s35 (fR s35 a0 0) 4 → F (-2) s35))) ∧ (0 ≤ r36 → F r36 s35)))) ∧ (40 < r32 → F (-1) s31)))))))))))) : ck iv L h0 (d + 1) 2 [vr a0, vi a1, vi a2, vi a3] s (qi F) := by
  show wk iv L h0 (d + 1) 2 0 [lr a0, li a1, li a2, li a3] [] s (qi F)
  refine w_iload_n rfl rfl ?_
  refine w_if_eq rfl (fun h => ?_) (fun h => ?_)
  · replace H := H.1 h
    refine w_iconst (n := 3) rfl rfl ?_
    refine w_istore rfl rfl ?_
    refine w_aload_n rfl rfl ?_
    obtain ⟨g1, H⟩ := H
    refine c_getr rfl rfl rfl g1 ?_
    refine w_iload_n rfl rfl ?_
    obtain ⟨g2, H⟩ := H
    refine c_virt (p := (fR s a0 0)) (as := [vi a2]) (r := []) rfl rfl rfl rfl rfl rfl g2 (wc_mono H (Nat.le_refl _) ?_)
    rintro _ s3 ⟨r4, rfl, H⟩
    show wk iv L h0 (d + 1) 2 19 [lr a0, li a1, li a2, li a3, li 3] [vi r4] s3 (qi F)
    refine w_if_eq rfl (fun h => ?_) (fun h => ?_)
    · replace H := H.1 h
      refine w_iconst (n := (-1)) rfl rfl ?_
      exact w_iret rfl rfl ⟨_, rfl, H⟩
    · replace H := H.2 h
      refine w_aload_n rfl rfl ?_
      obtain ⟨g5, H⟩ := H
      refine c_getr rfl rfl rfl g5 ?_
      refine w_iload_n rfl rfl ?_
      obtain ⟨g6, H⟩ := H
      refine c_virt (p := (fR s3 a0 0)) (as := [vi a3]) (r := []) rfl rfl rfl rfl rfl rfl g6 (wc_mono H (Nat.le_refl _) ?_)
      rintro _ s7 ⟨r8, rfl, H⟩
      show wk iv L h0 (d + 1) 2 30 [lr a0, li a1, li a2, li a3, li 3] [vi r8] s7 (qi F)
      refine w_if_eq rfl (fun h => ?_) (fun h => ?_)
      · replace H := H.1 h
        refine w_iconst (n := (-1)) rfl rfl ?_
        exact w_iret rfl rfl ⟨_, rfl, H⟩
      · replace H := H.2 h
        refine w_aload_n rfl rfl ?_
        obtain ⟨g9, H⟩ := H
        refine c_getr rfl rfl rfl g9 ?_
        refine w_iload_n rfl rfl ?_
        refine w_iload_n rfl rfl ?_
        obtain ⟨g10, H⟩ := H
        refine c_virt (p := (fR s7 a0 0)) (as := [vi a2, vi a3]) (r := []) rfl rfl rfl rfl rfl rfl g10 (wc_mono H (Nat.le_refl _) ?_)
        rintro _ s11 ⟨r12, rfl, H⟩
        show wk iv L h0 (d + 1) 2 42 [lr a0, li a1, li a2, li a3, li 3] [vi r12] s11 (qi F)
        refine w_bipush (n := 40) rfl rfl rfl ?_
        refine w_icmp_le rfl (fun h => ?_) (fun h => ?_)
        · replace H := H.1 h
          refine w_aload_n rfl rfl ?_
          obtain ⟨g13, H⟩ := H
          refine c_getr rfl rfl rfl g13 ?_
          refine w_iload rfl rfl ?_
          refine w_iload_n rfl rfl ?_
          refine w_iload_n rfl rfl ?_
          obtain ⟨g14, H⟩ := H
          refine c_virt (p := (fR s11 a0 0)) (as := [vi 3, vi a2, vi a3]) (r := []) rfl rfl rfl rfl rfl rfl g14 (wc_mono H (Nat.le_refl _) ?_)
          rintro _ s15 ⟨r16, rfl, H⟩
          show wk iv L h0 (d + 1) 2 60 [lr a0, li a1, li a2, li a3, li 3] [vi r16] s15 (qi F)
          refine w_istore rfl rfl ?_
          refine w_iload rfl rfl ?_
          refine w_if_lt rfl (fun h => ?_) (fun h => ?_)
          · replace H := H.1 h
            refine w_aload_n rfl rfl ?_
            obtain ⟨g17, H⟩ := H
            refine c_getr rfl rfl rfl g17 ?_
            obtain ⟨g18, H⟩ := H
            refine c_get rfl rfl rfl g18 ?_
            refine w_bipush (n := 40) rfl rfl rfl ?_
            refine w_icmp_lt rfl (fun h => ?_) (fun h => ?_)
            · replace H := H.1 h
              refine w_aload_n rfl rfl ?_
              refine c_getr rfl rfl rfl g17 ?_
              refine w_iload rfl rfl ?_
              refine w_iload_n rfl rfl ?_
              refine w_iload_n rfl rfl ?_
              refine c_virt (p := (fR s15 a0 0)) (as := [vi 3, vi a2, vi a3]) (r := []) rfl rfl rfl rfl rfl rfl g18 (wc_mono H (Nat.le_refl _) ?_)
              rintro _ s19 ⟨r20, rfl, H⟩
              show wk iv L h0 (d + 1) 2 98 [lr a0, li a1, li a2, li a3, li 3, li r16] [vi r20] s19 (qi F)
              exact w_iret rfl rfl ⟨_, rfl, H⟩
            · replace H := H.2 h
              refine w_bipush (n := (-2)) rfl rfl rfl ?_
              refine w_goto rfl ?_
              exact w_iret rfl rfl ⟨_, rfl, H⟩
          · replace H := H.2 h
            refine w_iload rfl rfl ?_
            exact w_iret rfl rfl ⟨_, rfl, H⟩
        · replace H := H.2 h
          refine w_iconst (n := (-1)) rfl rfl ?_
          exact w_iret rfl rfl ⟨_, rfl, H⟩
  · replace H := H.2 h
    refine w_iconst (n := 4) rfl rfl ?_
    refine w_goto rfl ?_
    refine w_istore rfl rfl ?_
    refine w_aload_n rfl rfl ?_
    obtain ⟨g21, H⟩ := H
    refine c_getr rfl rfl rfl g21 ?_
    refine w_iload_n rfl rfl ?_
    obtain ⟨g22, H⟩ := H
    refine c_virt (p := (fR s a0 0)) (as := [vi a2]) (r := []) rfl rfl rfl rfl rfl rfl g22 (wc_mono H (Nat.le_refl _) ?_)
    rintro _ s23 ⟨r24, rfl, H⟩
    show wk iv L h0 (d + 1) 2 19 [lr a0, li a1, li a2, li a3, li 4] [vi r24] s23 (qi F)
    refine w_if_eq rfl (fun h => ?_) (fun h => ?_)
    · replace H := H.1 h
      refine w_iconst (n := (-1)) rfl rfl ?_
      exact w_iret rfl rfl ⟨_, rfl, H⟩
    · replace H := H.2 h
      refine w_aload_n rfl rfl ?_
      obtain ⟨g25, H⟩ := H
      refine c_getr rfl rfl rfl g25 ?_
      refine w_iload_n rfl rfl ?_
      obtain ⟨g26, H⟩ := H
      refine c_virt (p := (fR s23 a0 0)) (as := [vi a3]) (r := []) rfl rfl rfl rfl rfl rfl g26 (wc_mono H (Nat.le_refl _) ?_)
      rintro _ s27 ⟨r28, rfl, H⟩
      show wk iv L h0 (d + 1) 2 30 [lr a0, li a1, li a2, li a3, li 4] [vi r28] s27 (qi F)
      refine w_if_eq rfl (fun h => ?_) (fun h => ?_)
      · replace H := H.1 h
        refine w_iconst (n := (-1)) rfl rfl ?_
        exact w_iret rfl rfl ⟨_, rfl, H⟩
      · replace H := H.2 h
        refine w_aload_n rfl rfl ?_
        obtain ⟨g29, H⟩ := H
        refine c_getr rfl rfl rfl g29 ?_
        refine w_iload_n rfl rfl ?_
        refine w_iload_n rfl rfl ?_
        obtain ⟨g30, H⟩ := H
        refine c_virt (p := (fR s27 a0 0)) (as := [vi a2, vi a3]) (r := []) rfl rfl rfl rfl rfl rfl g30 (wc_mono H (Nat.le_refl _) ?_)
        rintro _ s31 ⟨r32, rfl, H⟩
        show wk iv L h0 (d + 1) 2 42 [lr a0, li a1, li a2, li a3, li 4] [vi r32] s31 (qi F)
        refine w_bipush (n := 40) rfl rfl rfl ?_
        refine w_icmp_le rfl (fun h => ?_) (fun h => ?_)
        · replace H := H.1 h
          refine w_aload_n rfl rfl ?_
          obtain ⟨g33, H⟩ := H
          refine c_getr rfl rfl rfl g33 ?_
          refine w_iload rfl rfl ?_
          refine w_iload_n rfl rfl ?_
          refine w_iload_n rfl rfl ?_
          obtain ⟨g34, H⟩ := H
          refine c_virt (p := (fR s31 a0 0)) (as := [vi 4, vi a2, vi a3]) (r := []) rfl rfl rfl rfl rfl rfl g34 (wc_mono H (Nat.le_refl _) ?_)
          rintro _ s35 ⟨r36, rfl, H⟩
          show wk iv L h0 (d + 1) 2 60 [lr a0, li a1, li a2, li a3, li 4] [vi r36] s35 (qi F)
          refine w_istore rfl rfl ?_
          refine w_iload rfl rfl ?_
          refine w_if_lt rfl (fun h => ?_) (fun h => ?_)
          · replace H := H.1 h
            refine w_aload_n rfl rfl ?_
            obtain ⟨g37, H⟩ := H
            refine c_getr rfl rfl rfl g37 ?_
            obtain ⟨g38, H⟩ := H
            refine c_get rfl rfl rfl g38 ?_
            refine w_bipush (n := 40) rfl rfl rfl ?_
            refine w_icmp_lt rfl (fun h => ?_) (fun h => ?_)
            · replace H := H.1 h
              refine w_aload_n rfl rfl ?_
              refine c_getr rfl rfl rfl g37 ?_
              refine w_iload rfl rfl ?_
              refine w_iload_n rfl rfl ?_
              refine w_iload_n rfl rfl ?_
              refine c_virt (p := (fR s35 a0 0)) (as := [vi 4, vi a2, vi a3]) (r := []) rfl rfl rfl rfl rfl rfl g38 (wc_mono H (Nat.le_refl _) ?_)
              rintro _ s39 ⟨r40, rfl, H⟩
              show wk iv L h0 (d + 1) 2 98 [lr a0, li a1, li a2, li a3, li 4, li r36] [vi r40] s39 (qi F)
              exact w_iret rfl rfl ⟨_, rfl, H⟩
            · replace H := H.2 h
              refine w_bipush (n := (-2)) rfl rfl rfl ?_
              refine w_goto rfl ?_
              exact w_iret rfl rfl ⟨_, rfl, H⟩
          · replace H := H.2 h
            refine w_iload rfl rfl ?_
            exact w_iret rfl rfl ⟨_, rfl, H⟩
        · replace H := H.2 h
          refine w_iconst (n := (-1)) rfl rfl ?_
          exact w_iret rfl rfl ⟨_, rfl, H⟩

/-- HoleDesk.kindOf(II)I -/
theorem C3 {iv : List (Int × Int)} {L : Nat} {h0 : MH} {d : Nat} {s : SC} {a0 : Nat} {a1 : Int} {a2 : Int} {F : Int → SC → Prop} (H : (kl s a0 = 1) ∧ (kl s (fR s a0 0) = 4) ∧ ck iv L h0 d 176 [vr (fR s a0 0), vi a1] s (qi fun r4 s3 => ((r4 ≠ 0 → ((a2 = 0 → (kl s3 a0 = 1) ∧ (kl s3 (fR s3 a0 0) = 4) ∧ (kl s3 (fR s3 (fR s3 a0 0) 0) = 100) ∧ (0 ≤ a1 ∧ a1 < le s3 (fR s3 (fR s3 a0 0) 0)) ∧ F (aI s3 (fR s3 (fR s3 a0 0) 0) a1) s3) ∧ (a2 = 1 → (kl s3 a0 = 1) ∧ (kl s3 (fR s3 a0 0) = 4) ∧ (kl s3 (fR s3 (fR s3 a0 0) 1) = 100) ∧ (0 ≤ a1 ∧ a1 < le s3 (fR s3 (fR s3 a0 0) 1)) ∧ F (aI s3 (fR s3 (fR s3 a0 0) 1) a1) s3) ∧ (a2 = 2 → (kl s3 a0 = 1) ∧ (kl s3 (fR s3 a0 0) = 4) ∧ (kl s3 (fR s3 (fR s3 a0 0) 2) = 100) ∧ (0 ≤ a1 ∧ a1 < le s3 (fR s3 (fR s3 a0 0) 2)) ∧ F (aI s3 (fR s3 (fR s3 a0 0) 2) a1) s3) ∧ (a2 = 3 → (kl s3 a0 = 1) ∧ (kl s3 (fR s3 a0 0) = 4) ∧ (kl s3 (fR s3 (fR s3 a0 0) 3) = 100) ∧ (0 ≤ a1 ∧ a1 < le s3 (fR s3 (fR s3 a0 0) 3)) ∧ F (aI s3 (fR s3 (fR s3 a0 0) 3) a1) s3) ∧ (a2 < 0 ∨ 3 < a2 → F (-1) s3))) ∧ (r4 = 0 → F (-1) s3)))) : ck iv L h0 (d + 1) 3 [vr a0, vi a1, vi a2] s (qi F) := by
  show wk iv L h0 (d + 1) 3 0 [lr a0, li a1, li a2] [] s (qi F)
  refine w_aload_n rfl rfl ?_
  obtain ⟨g1, H⟩ := H
  refine c_getr rfl rfl rfl g1 ?_
  refine w_iload_n rfl rfl ?_
  obtain ⟨g2, H⟩ := H
  refine c_virt (p := (fR s a0 0)) (as := [vi a1]) (r := []) rfl rfl rfl rfl rfl rfl g2 (wc_mono H (Nat.le_refl _) ?_)
  rintro _ s3 ⟨r4, rfl, H⟩
  show wk iv L h0 (d + 1) 3 8 [lr a0, li a1, li a2] [vi r4] s3 (qi F)
  refine w_if_ne rfl (fun h => ?_) (fun h => ?_)
  · replace H := H.1 h
    refine w_iload_n rfl rfl ?_
    have J44 : (a2 = 0) → wk iv L h0 (d + 1) 3 44 [lr a0, li a1, li a2] [] s3 (qi F) := fun h => by
      replace H := H.1 h
      refine w_aload_n rfl rfl ?_
      obtain ⟨g5, H⟩ := H
      refine c_getr rfl rfl rfl g5 ?_
      obtain ⟨g6, H⟩ := H
      refine c_getr rfl rfl rfl g6 ?_
      refine w_iload_n rfl rfl ?_
      obtain ⟨g7, H⟩ := H
      obtain ⟨g8, H⟩ := H
      refine c_ald rfl g7 g8 ?_
      exact w_iret rfl rfl ⟨_, rfl, H⟩
    have J54 : (a2 = 1) → wk iv L h0 (d + 1) 3 54 [lr a0, li a1, li a2] [] s3 (qi F) := fun h => by
      replace H := H.2.1 h
      refine w_aload_n rfl rfl ?_
      obtain ⟨g9, H⟩ := H
      refine c_getr rfl rfl rfl g9 ?_
      obtain ⟨g10, H⟩ := H
      refine c_getr rfl rfl rfl g10 ?_
      refine w_iload_n rfl rfl ?_
      obtain ⟨g11, H⟩ := H
      obtain ⟨g12, H⟩ := H
      refine c_ald rfl g11 g12 ?_
      exact w_iret rfl rfl ⟨_, rfl, H⟩
    have J64 : (a2 = 2) → wk iv L h0 (d + 1) 3 64 [lr a0, li a1, li a2] [] s3 (qi F) := fun h => by
      replace H := H.2.2.1 h
      refine w_aload_n rfl rfl ?_
      obtain ⟨g13, H⟩ := H
      refine c_getr rfl rfl rfl g13 ?_
      obtain ⟨g14, H⟩ := H
      refine c_getr rfl rfl rfl g14 ?_
      refine w_iload_n rfl rfl ?_
      obtain ⟨g15, H⟩ := H
      obtain ⟨g16, H⟩ := H
      refine c_ald rfl g15 g16 ?_
      exact w_iret rfl rfl ⟨_, rfl, H⟩
    have J74 : (a2 = 3) → wk iv L h0 (d + 1) 3 74 [lr a0, li a1, li a2] [] s3 (qi F) := fun h => by
      replace H := H.2.2.2.1 h
      refine w_aload_n rfl rfl ?_
      obtain ⟨g17, H⟩ := H
      refine c_getr rfl rfl rfl g17 ?_
      obtain ⟨g18, H⟩ := H
      refine c_getr rfl rfl rfl g18 ?_
      refine w_iload_n rfl rfl ?_
      obtain ⟨g19, H⟩ := H
      obtain ⟨g20, H⟩ := H
      refine c_ald rfl g19 g20 ?_
      exact w_iret rfl rfl ⟨_, rfl, H⟩
    have J84 : (a2 < 0 ∨ 3 < a2) → wk iv L h0 (d + 1) 3 84 [lr a0, li a1, li a2] [] s3 (qi F) := fun h => by
      replace H := H.2.2.2.2 h
      refine w_iconst (n := (-1)) rfl rfl ?_
      exact w_iret rfl rfl ⟨_, rfl, H⟩
    refine w_tsw (td := 84) (ts := [44, 54, 64, 74]) rfl rfl rfl rfl rfl rfl (fun h => J84 (by omega)) ?_
    exact swA_c (fun h => J44 (by omega)) (swA_c (fun h => J54 (by omega)) (swA_c (fun h => J64 (by omega)) (swA_c (fun h => J74 (by omega)) (swA_n))))
  · replace H := H.2 h
    refine w_iconst (n := (-1)) rfl rfl ?_
    exact w_iret rfl rfl ⟨_, rfl, H⟩

/-- HoleDesk.meet(II)I -/
theorem C4 {iv : List (Int × Int)} {L : Nat} {h0 : MH} {d : Nat} {s : SC} {a0 : Nat} {a1 : Int} {a2 : Int} {F : Int → SC → Prop} (H : (kl s a0 = 1) ∧ (kl s (fR s a0 0) = 4) ∧ ck iv L h0 d 176 [vr (fR s a0 0), vi a1] s (qi fun r4 s3 => ((r4 = 0 → F (-1) s3) ∧ (r4 ≠ 0 → (kl s3 a0 = 1) ∧ (kl s3 (fR s3 a0 0) = 4) ∧ ck iv L h0 d 176 [vr (fR s3 a0 0), vi a2] s3 (qi fun r8 s7 => ((r8 ≠ 0 → (kl s7 a0 = 1) ∧ (kl s7 (fR s7 a0 0) = 4) ∧ ck iv L h0 d 182 [vr (fR s7 a0 0), vi a1, vi a2] s7 (qi fun r12 s11 => ((r12 = 0 → F 0 s11) ∧ (r12 ≠ 0 → F 1 s11)))) ∧ (r8 = 0 → F (-1) s7))))))) : ck iv L h0 (d + 1) 4 [vr a0, vi a1, vi a2] s (qi F) := by
  show wk iv L h0 (d + 1) 4 0 [lr a0, li a1, li a2] [] s (qi F)
  refine w_aload_n rfl rfl ?_
  obtain ⟨g1, H⟩ := H
  refine c_getr rfl rfl rfl g1 ?_
  refine w_iload_n rfl rfl ?_
  obtain ⟨g2, H⟩ := H
  refine c_virt (p := (fR s a0 0)) (as := [vi a1]) (r := []) rfl rfl rfl rfl rfl rfl g2 (wc_mono H (Nat.le_refl _) ?_)
  rintro _ s3 ⟨r4, rfl, H⟩
  show wk iv L h0 (d + 1) 4 8 [lr a0, li a1, li a2] [vi r4] s3 (qi F)
  refine w_if_eq rfl (fun h => ?_) (fun h => ?_)
  · replace H := H.1 h
    refine w_iconst (n := (-1)) rfl rfl ?_
    exact w_iret rfl rfl ⟨_, rfl, H⟩
  · replace H := H.2 h
    refine w_aload_n rfl rfl ?_
    obtain ⟨g5, H⟩ := H
    refine c_getr rfl rfl rfl g5 ?_
    refine w_iload_n rfl rfl ?_
    obtain ⟨g6, H⟩ := H
    refine c_virt (p := (fR s3 a0 0)) (as := [vi a2]) (r := []) rfl rfl rfl rfl rfl rfl g6 (wc_mono H (Nat.le_refl _) ?_)
    rintro _ s7 ⟨r8, rfl, H⟩
    show wk iv L h0 (d + 1) 4 19 [lr a0, li a1, li a2] [vi r8] s7 (qi F)
    refine w_if_ne rfl (fun h => ?_) (fun h => ?_)
    · replace H := H.1 h
      refine w_aload_n rfl rfl ?_
      obtain ⟨g9, H⟩ := H
      refine c_getr rfl rfl rfl g9 ?_
      refine w_iload_n rfl rfl ?_
      refine w_iload_n rfl rfl ?_
      obtain ⟨g10, H⟩ := H
      refine c_virt (p := (fR s7 a0 0)) (as := [vi a1, vi a2]) (r := []) rfl rfl rfl rfl rfl rfl g10 (wc_mono H (Nat.le_refl _) ?_)
      rintro _ s11 ⟨r12, rfl, H⟩
      show wk iv L h0 (d + 1) 4 33 [lr a0, li a1, li a2] [vi r12] s11 (qi F)
      refine w_if_eq rfl (fun h => ?_) (fun h => ?_)
      · replace H := H.1 h
        refine w_iconst (n := 0) rfl rfl ?_
        exact w_iret rfl rfl ⟨_, rfl, H⟩
      · replace H := H.2 h
        refine w_iconst (n := 1) rfl rfl ?_
        refine w_goto rfl ?_
        exact w_iret rfl rfl ⟨_, rfl, H⟩
    · replace H := H.2 h
      refine w_iconst (n := (-1)) rfl rfl ?_
      exact w_iret rfl rfl ⟨_, rfl, H⟩

/-- HoleDesk.nodes()I -/
theorem C5 {iv : List (Int × Int)} {L : Nat} {h0 : MH} {d : Nat} {s : SC} {a0 : Nat} {F : Int → SC → Prop} (H : (kl s a0 = 1) ∧ (kl s (fR s a0 1) = 8) ∧ F (fI s (fR s a0 1) 3) s) : ck iv L h0 d 5 [vr a0] s (qi F) := by
  show wk iv L h0 d 5 0 [lr a0] [] s (qi F)
  refine w_aload_n rfl rfl ?_
  obtain ⟨g1, H⟩ := H
  refine c_getr rfl rfl rfl g1 ?_
  obtain ⟨g2, H⟩ := H
  refine c_get rfl rfl rfl g2 ?_
  exact w_iret rfl rfl ⟨_, rfl, H⟩

/-- HoleDesk.cursor()I -/
theorem C6 {iv : List (Int × Int)} {L : Nat} {h0 : MH} {d : Nat} {s : SC} {a0 : Nat} {F : Int → SC → Prop} (H : (kl s a0 = 1) ∧ (kl s (fR s a0 1) = 8) ∧ (kl s (fR s (fR s a0 1) 2) = 5) ∧ F (fI s (fR s (fR s a0 1) 2) 0) s) : ck iv L h0 d 6 [vr a0] s (qi F) := by
  show wk iv L h0 d 6 0 [lr a0] [] s (qi F)
  refine w_aload_n rfl rfl ?_
  obtain ⟨g1, H⟩ := H
  refine c_getr rfl rfl rfl g1 ?_
  obtain ⟨g2, H⟩ := H
  refine c_getr rfl rfl rfl g2 ?_
  obtain ⟨g3, H⟩ := H
  refine c_get rfl rfl rfl g3 ?_
  exact w_iret rfl rfl ⟨_, rfl, H⟩

/-- HoleDesk.told(II)I -/
theorem C7 {iv : List (Int × Int)} {L : Nat} {h0 : MH} {d : Nat} {s : SC} {a0 : Nat} {a1 : Int} {a2 : Int} {F : Int → SC → Prop} (H : (kl s a0 = 1) ∧ (kl s (fR s a0 1) = 8) ∧ ck iv L h0 d 207 [vr (fR s a0 1), vi a1] s (qa fun r4 s3 => ((r4 ≠ 2 → (kl s3 a0 = 1) ∧ ck iv L h0 d 48 [vr a0, vr r4, vi a2] s3 (qi fun r7 s6 => F r7 s6)) ∧ (r4 = 2 → F (-1) s3)))) : ck iv L h0 (d + 1) 7 [vr a0, vi a1, vi a2] s (qi F) := by
  show wk iv L h0 (d + 1) 7 0 [lr a0, li a1, li a2] [] s (qi F)
  refine w_aload_n rfl rfl ?_
  obtain ⟨g1, H⟩ := H
  refine c_getr rfl rfl rfl g1 ?_
  refine w_iload_n rfl rfl ?_
  obtain ⟨g2, H⟩ := H
  refine c_virt (p := (fR s a0 1)) (as := [vi a1]) (r := []) rfl rfl rfl rfl rfl rfl g2 (wc_mono H (Nat.le_refl _) ?_)
  rintro _ s3 ⟨r4, rfl, H⟩
  show wk iv L h0 (d + 1) 7 8 [lr a0, li a1, li a2] [vr r4] s3 (qi F)
  refine w_astore_n rfl rfl ?_
  refine w_aload_n rfl rfl ?_
  refine c_nonnull rfl (fun h => ?_) (fun h => ?_)
  · replace H := H.1 h
    refine w_aload_n rfl rfl ?_
    refine w_aload_n rfl rfl ?_
    refine w_iload_n rfl rfl ?_
    obtain ⟨g5, H⟩ := H
    refine c_virt (p := a0) (as := [vr r4, vi a2]) (r := []) rfl rfl rfl rfl rfl rfl g5 (wc_mono H (Nat.le_refl _) ?_)
    rintro _ s6 ⟨r7, rfl, H⟩
    show wk iv L h0 (d + 1) 7 23 [lr a0, li a1, li a2, lr r4] [vi r7] s6 (qi F)
    exact w_iret rfl rfl ⟨_, rfl, H⟩
  · replace H := H.2 h
    refine w_iconst (n := (-1)) rfl rfl ?_
    refine w_goto rfl ?_
    exact w_iret rfl rfl ⟨_, rfl, H⟩

/-- HoleDesk.part(II)I -/
theorem C8 {iv : List (Int × Int)} {L : Nat} {h0 : MH} {d : Nat} {s : SC} {a0 : Nat} {a1 : Int} {a2 : Int} {F : Int → SC → Prop} (H : (kl s a0 = 1) ∧ (kl s (fR s a0 1) = 8) ∧ ck iv L h0 d 207 [vr (fR s a0 1), vi a1] s (qa fun r4 s3 => ((r4 ≠ 2 → (kl s3 r4 = 5) ∧ ck iv L h0 d 187 [vr r4, vi a2] s3 (qi fun r7 s6 => ((r7 = 0 → (kl s6 a0 = 1) ∧ ck iv L h0 d 47 [vr a0, vi 2] s6 (qi fun r10 s9 => F r10 s9)) ∧ (r7 ≠ 0 → (kl s6 r4 = 5) ∧ (kl s6 (fR s6 r4 3) = 103) ∧ (0 ≤ a2 ∧ a2 < le s6 (fR s6 r4 3)) ∧ (kl s6 (aR s6 (fR s6 r4 3) a2) = 5) ∧ F (fI s6 (aR s6 (fR s6 r4 3) a2) 0) s6)))) ∧ (r4 = 2 → F (-1) s3)))) : ck iv L h0 (d + 1) 8 [vr a0, vi a1, vi a2] s (qi F) := by
  show wk iv L h0 (d + 1) 8 0 [lr a0, li a1, li a2] [] s (qi F)
  refine w_aload_n rfl rfl ?_
  obtain ⟨g1, H⟩ := H
  refine c_getr rfl rfl rfl g1 ?_
  refine w_iload_n rfl rfl ?_
  obtain ⟨g2, H⟩ := H
  refine c_virt (p := (fR s a0 1)) (as := [vi a1]) (r := []) rfl rfl rfl rfl rfl rfl g2 (wc_mono H (Nat.le_refl _) ?_)
  rintro _ s3 ⟨r4, rfl, H⟩
  show wk iv L h0 (d + 1) 8 8 [lr a0, li a1, li a2] [vr r4] s3 (qi F)
  refine w_astore_n rfl rfl ?_
  refine w_aload_n rfl rfl ?_
  refine c_nonnull rfl (fun h => ?_) (fun h => ?_)
  · replace H := H.1 h
    refine w_aload_n rfl rfl ?_
    refine w_iload_n rfl rfl ?_
    obtain ⟨g5, H⟩ := H
    refine c_virt (p := r4) (as := [vi a2]) (r := []) rfl rfl rfl rfl rfl rfl g5 (wc_mono H (Nat.le_refl _) ?_)
    rintro _ s6 ⟨r7, rfl, H⟩
    show wk iv L h0 (d + 1) 8 20 [lr a0, li a1, li a2, lr r4] [vi r7] s6 (qi F)
    refine w_if_eq rfl (fun h => ?_) (fun h => ?_)
    · replace H := H.1 h
      refine w_aload_n rfl rfl ?_
      refine w_iconst (n := 2) rfl rfl ?_
      obtain ⟨g8, H⟩ := H
      refine c_virt (p := a0) (as := [vi 2]) (r := []) rfl rfl rfl rfl rfl rfl g8 (wc_mono H (Nat.le_refl _) ?_)
      rintro _ s9 ⟨r10, rfl, H⟩
      show wk iv L h0 (d + 1) 8 40 [lr a0, li a1, li a2, lr r4] [vi r10] s9 (qi F)
      exact w_iret rfl rfl ⟨_, rfl, H⟩
    · replace H := H.2 h
      refine w_aload_n rfl rfl ?_
      obtain ⟨g11, H⟩ := H
      refine c_getr rfl rfl rfl g11 ?_
      refine w_iload_n rfl rfl ?_
      obtain ⟨g12, H⟩ := H
      obtain ⟨g13, H⟩ := H
      refine c_aald (t := 3) rfl ⟨g12, by decide, by decide⟩ g13 ?_
      obtain ⟨g14, H⟩ := H
      refine c_get rfl rfl rfl g14 ?_
      refine w_goto rfl ?_
      exact w_iret rfl rfl ⟨_, rfl, H⟩
  · replace H := H.2 h
    refine w_iconst (n := (-1)) rfl rfl ?_
    exact w_iret rfl rfl ⟨_, rfl, H⟩

/-- HoleDesk.sign(IZI)I -/
theorem C9 {iv : List (Int × Int)} {L : Nat} {h0 : MH} {d : Nat} {s : SC} {a0 : Nat} {a1 : Int} {a2 : Int} {a3 : Int} {F : Int → SC → Prop} (H : (kl s a0 = 1) ∧ (kl s (fR s a0 1) = 8) ∧ ck iv L h0 d 207 [vr (fR s a0 1), vi a1] s (qa fun r4 s3 => ((r4 = 2 → F (-1) s3) ∧ (r4 ≠ 2 → ((0 ≤ a3 → ((a2 = 0 → (kl s3 r4 = 5) ∧ ((fI s3 r4 9 ≠ (-1) → (kl s3 a0 = 1) ∧ (kl s3 (fR s3 a0 0) = 4) ∧ ck iv L h0 d 185 [vr (fR s3 a0 0), vi (fI s3 r4 9), vi a3] s3 (qi fun r9 s8 => F r9 s8)) ∧ (fI s3 r4 9 = (-1) → F (-9) s3))) ∧ (a2 ≠ 0 → (kl s3 r4 = 5) ∧ ((fI s3 r4 8 ≠ (-1) → (kl s3 a0 = 1) ∧ (kl s3 (fR s3 a0 0) = 4) ∧ ck iv L h0 d 185 [vr (fR s3 a0 0), vi (fI s3 r4 8), vi a3] s3 (qi fun r14 s13 => F r14 s13)) ∧ (fI s3 r4 8 = (-1) → F (-9) s3))))) ∧ (a3 < 0 → F (-1) s3)))))) : ck iv L h0 (d + 1) 9 [vr a0, vi a1, vi a2, vi a3] s (qi F) := by
  show wk iv L h0 (d + 1) 9 0 [lr a0, li a1, li a2, li a3] [] s (qi F)
  refine w_aload_n rfl rfl ?_
  obtain ⟨g1, H⟩ := H
  refine c_getr rfl rfl rfl g1 ?_
  refine w_iload_n rfl rfl ?_
  obtain ⟨g2, H⟩ := H
  refine c_virt (p := (fR s a0 1)) (as := [vi a1]) (r := []) rfl rfl rfl rfl rfl rfl g2 (wc_mono H (Nat.le_refl _) ?_)
  rintro _ s3 ⟨r4, rfl, H⟩
  show wk iv L h0 (d + 1) 9 8 [lr a0, li a1, li a2, li a3] [vr r4] s3 (qi F)
  refine w_astore rfl rfl ?_
  refine w_aload rfl rfl ?_
  refine c_null rfl (fun h => ?_) (fun h => ?_)
  · replace H := H.1 h
    refine w_iconst (n := (-1)) rfl rfl ?_
    exact w_iret rfl rfl ⟨_, rfl, H⟩
  · replace H := H.2 h
    refine w_iload_n rfl rfl ?_
    refine w_if_ge rfl (fun h => ?_) (fun h => ?_)
    · replace H := H.1 h
      refine w_iload_n rfl rfl ?_
      refine w_if_eq rfl (fun h => ?_) (fun h => ?_)
      · replace H := H.1 h
        refine w_aload rfl rfl ?_
        obtain ⟨g5, H⟩ := H
        refine c_get rfl rfl rfl g5 ?_
        refine w_istore rfl rfl ?_
        refine w_iload rfl rfl ?_
        refine w_iconst (n := (-1)) rfl rfl ?_
        refine w_icmp_ne rfl (fun h => ?_) (fun h => ?_)
        · replace H := H.1 h
          refine w_aload_n rfl rfl ?_
          obtain ⟨g6, H⟩ := H
          refine c_getr rfl rfl rfl g6 ?_
          refine w_iload rfl rfl ?_
          refine w_iload_n rfl rfl ?_
          obtain ⟨g7, H⟩ := H
          refine c_virt (p := (fR s3 a0 0)) (as := [vi (fI s3 r4 9), vi a3]) (r := []) rfl rfl rfl rfl rfl rfl g7 (wc_mono H (Nat.le_refl _) ?_)
          rintro _ s8 ⟨r9, rfl, H⟩
          show wk iv L h0 (d + 1) 9 61 [lr a0, li a1, li a2, li a3, lr r4, li (fI s3 r4 9)] [vi r9] s8 (qi F)
          exact w_iret rfl rfl ⟨_, rfl, H⟩
        · replace H := H.2 h
          refine w_bipush (n := (-9)) rfl rfl rfl ?_
          refine w_goto rfl ?_
          exact w_iret rfl rfl ⟨_, rfl, H⟩
      · replace H := H.2 h
        refine w_aload rfl rfl ?_
        obtain ⟨g10, H⟩ := H
        refine c_get rfl rfl rfl g10 ?_
        refine w_goto rfl ?_
        refine w_istore rfl rfl ?_
        refine w_iload rfl rfl ?_
        refine w_iconst (n := (-1)) rfl rfl ?_
        refine w_icmp_ne rfl (fun h => ?_) (fun h => ?_)
        · replace H := H.1 h
          refine w_aload_n rfl rfl ?_
          obtain ⟨g11, H⟩ := H
          refine c_getr rfl rfl rfl g11 ?_
          refine w_iload rfl rfl ?_
          refine w_iload_n rfl rfl ?_
          obtain ⟨g12, H⟩ := H
          refine c_virt (p := (fR s3 a0 0)) (as := [vi (fI s3 r4 8), vi a3]) (r := []) rfl rfl rfl rfl rfl rfl g12 (wc_mono H (Nat.le_refl _) ?_)
          rintro _ s13 ⟨r14, rfl, H⟩
          show wk iv L h0 (d + 1) 9 61 [lr a0, li a1, li a2, li a3, lr r4, li (fI s3 r4 8)] [vi r14] s13 (qi F)
          exact w_iret rfl rfl ⟨_, rfl, H⟩
        · replace H := H.2 h
          refine w_bipush (n := (-9)) rfl rfl rfl ?_
          refine w_goto rfl ?_
          exact w_iret rfl rfl ⟨_, rfl, H⟩
    · replace H := H.2 h
      refine w_iconst (n := (-1)) rfl rfl ?_
      exact w_iret rfl rfl ⟨_, rfl, H⟩

/-- HoleDesk.hole(IZ)I -/
theorem C10 {iv : List (Int × Int)} {L : Nat} {h0 : MH} {d : Nat} {s : SC} {a0 : Nat} {a1 : Int} {a2 : Int} {F : Int → SC → Prop} (H : wk iv L h0 d 10 5 [lr a0, li a1, li a2, li 0, li 0] [] s (qi F)) : ck iv L h0 d 10 [vr a0, vi a1, vi a2] s (qi F) := by
  show wk iv L h0 d 10 0 [lr a0, li a1, li a2] [] s (qi F)
  refine w_iconst (n := 0) rfl rfl ?_
  refine w_istore_n rfl rfl ?_
  refine w_iconst (n := 0) rfl rfl ?_
  refine w_istore rfl rfl ?_
  exact wp_ls (sl_s (sl_s (sl_s (sl_s (sl_s (sl_0)))))) H

/-- HoleDesk.hole(IZ)I at 5 -/
theorem C10_5 {iv : List (Int × Int)} {L : Nat} {h0 : MH} {d : Nat} {s : SC} {l0 : Nat} {l1 : Int} {l2 : Int} {l3 : Int} {l4 : Int} {F : Int → SC → Prop} (H : (kl s l0 = 1) ∧ (kl s (fR s l0 1) = 8) ∧ ((fI s (fR s l0 1) 3 ≤ l4 → F (-9) s) ∧ (l4 < fI s (fR s l0 1) 3 → (kl s (fR s (fR s l0 1) 0) = 103) ∧ (0 ≤ l4 ∧ l4 < le s (fR s (fR s l0 1) 0)) ∧ ((l2 = 0 → (kl s (aR s (fR s (fR s l0 1) 0) l4) = 5) ∧ ((fI s (aR s (fR s (fR s l0 1) 0) l4) 1 ≠ 0 → (-2147483648 ≤ l4 + 1 ∧ l4 + 1 ≤ 2147483647) ∧ wk iv L h0 d 10 5 [lr l0, li l1, li l2, li l3, li (l4 + 1)] [] s (qi F)) ∧ (fI s (aR s (fR s (fR s l0 1) 0) l4) 1 = 0 → ((l3 ≠ l1 → (-2147483648 ≤ l3 + 1 ∧ l3 + 1 ≤ 2147483647) ∧ (-2147483648 ≤ l4 + 1 ∧ l4 + 1 ≤ 2147483647) ∧ wk iv L h0 d 10 5 [lr l0, li l1, li l2, li (l3 + 1), li (l4 + 1)] [] s (qi F)) ∧ (l3 = l1 → F (fI s (aR s (fR s (fR s l0 1) 0) l4) 0) s))))) ∧ (l2 ≠ 0 → (kl s (aR s (fR s (fR s l0 1) 0) l4) = 5) ∧ ((fI s (aR s (fR s (fR s l0 1) 0) l4) 10 = 0 → (-2147483648 ≤ l4 + 1 ∧ l4 + 1 ≤ 2147483647) ∧ wk iv L h0 d 10 5 [lr l0, li l1, li l2, li l3, li (l4 + 1)] [] s (qi F)) ∧ (fI s (aR s (fR s (fR s l0 1) 0) l4) 10 ≠ 0 → ((l3 ≠ l1 → (-2147483648 ≤ l3 + 1 ∧ l3 + 1 ≤ 2147483647) ∧ (-2147483648 ≤ l4 + 1 ∧ l4 + 1 ≤ 2147483647) ∧ wk iv L h0 d 10 5 [lr l0, li l1, li l2, li (l3 + 1), li (l4 + 1)] [] s (qi F)) ∧ (l3 = l1 → F (fI s (aR s (fR s (fR s l0 1) 0) l4) 0) s))))))))) : wk iv L h0 d 10 5 [lr l0, li l1, li l2, li l3, li l4] [] s (qi F) := by
  refine w_iload rfl rfl ?_
  refine w_aload_n rfl rfl ?_
  obtain ⟨g1, H⟩ := H
  refine c_getr rfl rfl rfl g1 ?_
  obtain ⟨g2, H⟩ := H
  refine c_get rfl rfl rfl g2 ?_
  refine w_icmp_ge rfl (fun h => ?_) (fun h => ?_)
  · replace H := H.1 h
    refine w_bipush (n := (-9)) rfl rfl rfl ?_
    exact w_iret rfl rfl ⟨_, rfl, H⟩
  · replace H := H.2 h
    refine w_aload_n rfl rfl ?_
    refine c_getr rfl rfl rfl g1 ?_
    refine c_getr rfl rfl rfl g2 ?_
    refine w_iload rfl rfl ?_
    obtain ⟨g3, H⟩ := H
    obtain ⟨g4, H⟩ := H
    refine c_aald (t := 3) rfl ⟨g3, by decide, by decide⟩ g4 ?_
    refine w_astore rfl rfl ?_
    refine w_iload_n rfl rfl ?_
    refine w_if_eq rfl (fun h => ?_) (fun h => ?_)
    · replace H := H.1 h
      refine w_aload rfl rfl ?_
      obtain ⟨g5, H⟩ := H
      refine c_get rfl rfl rfl g5 ?_
      refine w_if_ne rfl (fun h => ?_) (fun h => ?_)
      · replace H := H.1 h
        obtain ⟨g6, H⟩ := H
        refine w_iinc rfl rfl rfl g6 ?_
        refine w_goto rfl ?_
        exact wp_ls (sl_s (sl_s (sl_s (sl_s (sl_s (sl_0)))))) H
      · replace H := H.2 h
        refine w_iload_n rfl rfl ?_
        refine w_iload_n rfl rfl ?_
        refine w_icmp_ne rfl (fun h => ?_) (fun h => ?_)
        · replace H := H.1 h
          obtain ⟨g7, H⟩ := H
          refine w_iinc rfl rfl rfl g7 ?_
          obtain ⟨g8, H⟩ := H
          refine w_iinc rfl rfl rfl g8 ?_
          refine w_goto rfl ?_
          exact wp_ls (sl_s (sl_s (sl_s (sl_s (sl_s (sl_0)))))) H
        · replace H := H.2 h
          refine w_aload rfl rfl ?_
          refine c_get rfl rfl rfl g5 ?_
          exact w_iret rfl rfl ⟨_, rfl, H⟩
    · replace H := H.2 h
      refine w_aload rfl rfl ?_
      obtain ⟨g9, H⟩ := H
      refine c_get rfl rfl rfl g9 ?_
      refine w_if_eq rfl (fun h => ?_) (fun h => ?_)
      · replace H := H.1 h
        obtain ⟨g10, H⟩ := H
        refine w_iinc rfl rfl rfl g10 ?_
        refine w_goto rfl ?_
        exact wp_ls (sl_s (sl_s (sl_s (sl_s (sl_s (sl_0)))))) H
      · replace H := H.2 h
        refine w_goto rfl ?_
        refine w_iload_n rfl rfl ?_
        refine w_iload_n rfl rfl ?_
        refine w_icmp_ne rfl (fun h => ?_) (fun h => ?_)
        · replace H := H.1 h
          obtain ⟨g11, H⟩ := H
          refine w_iinc rfl rfl rfl g11 ?_
          obtain ⟨g12, H⟩ := H
          refine w_iinc rfl rfl rfl g12 ?_
          refine w_goto rfl ?_
          exact wp_ls (sl_s (sl_s (sl_s (sl_s (sl_s (sl_0)))))) H
        · replace H := H.2 h
          refine w_aload rfl rfl ?_
          refine c_get rfl rfl rfl g9 ?_
          exact w_iret rfl rfl ⟨_, rfl, H⟩

/-- HoleDesk.go(I)I -/
theorem C11 {iv : List (Int × Int)} {L : Nat} {h0 : MH} {d : Nat} {s : SC} {a0 : Nat} {a1 : Int} {F : Int → SC → Prop} (H : ((a1 < 0 → F (-1) s) ∧ (0 ≤ a1 → ((a1 ≤ 5 → (kl s a0 = 1) ∧ (kl s (fR s a0 1) = 8) ∧ ck iv L h0 d 211 [vr (fR s a0 1), vi a1] s (qa fun r4 s3 => ((r4 ≠ 2 → (kl s3 a0 = 1) ∧ (kl s3 (fR s3 a0 1) = 8) ∧ (kl s3 r4 = 5) ∧ F (fI s3 r4 0) (uR s3 (fR s3 a0 1) 2 r4)) ∧ (r4 = 2 → F (-4) s3)))) ∧ (5 < a1 → F (-1) s))))) : ck iv L h0 (d + 1) 11 [vr a0, vi a1] s (qi F) := by
  show wk iv L h0 (d + 1) 11 0 [lr a0, li a1] [] s (qi F)
  refine w_iload_n rfl rfl ?_
  refine w_if_lt rfl (fun h => ?_) (fun h => ?_)
  · replace H := H.1 h
    refine w_iconst (n := (-1)) rfl rfl ?_
    exact w_iret rfl rfl ⟨_, rfl, H⟩
  · replace H := H.2 h
    refine w_iload_n rfl rfl ?_
    refine w_iconst (n := 5) rfl rfl ?_
    refine w_icmp_le rfl (fun h => ?_) (fun h => ?_)
    · replace H := H.1 h
      refine w_aload_n rfl rfl ?_
      obtain ⟨g1, H⟩ := H
      refine c_getr rfl rfl rfl g1 ?_
      refine w_iload_n rfl rfl ?_
      obtain ⟨g2, H⟩ := H
      refine c_virt (p := (fR s a0 1)) (as := [vi a1]) (r := []) rfl rfl rfl rfl rfl rfl g2 (wc_mono H (Nat.le_refl _) ?_)
      rintro _ s3 ⟨r4, rfl, H⟩
      show wk iv L h0 (d + 1) 11 19 [lr a0, li a1] [vr r4] s3 (qi F)
      refine w_astore_n rfl rfl ?_
      refine w_aload_n rfl rfl ?_
      refine c_nonnull rfl (fun h => ?_) (fun h => ?_)
      · replace H := H.1 h
        refine w_aload_n rfl rfl ?_
        obtain ⟨g5, H⟩ := H
        refine c_getr rfl rfl rfl g5 ?_
        refine w_aload_n rfl rfl ?_
        obtain ⟨g6, H⟩ := H
        refine c_putr rfl rfl rfl rfl g6 ?_
        refine w_aload_n rfl rfl ?_
        obtain ⟨g7, H⟩ := H
        refine c_get rfl rfl rfl g7 ?_
        show wk iv L h0 (d + 1) 11 39 [lr a0, li a1, lr r4] [vi (fI s3 r4 0)] (uR s3 (fR s3 a0 1) 2 r4) (qi F)
        exact w_iret rfl rfl ⟨_, rfl, H⟩
      · replace H := H.2 h
        refine w_bipush (n := (-4)) rfl rfl rfl ?_
        exact w_iret rfl rfl ⟨_, rfl, H⟩
    · replace H := H.2 h
      refine w_iconst (n := (-1)) rfl rfl ?_
      exact w_iret rfl rfl ⟨_, rfl, H⟩

/-- HoleDesk.seek(I)I -/
theorem C12 {iv : List (Int × Int)} {L : Nat} {h0 : MH} {d : Nat} {s : SC} {a0 : Nat} {a1 : Int} {F : Int → SC → Prop} (H : (kl s a0 = 1) ∧ (kl s (fR s a0 1) = 8) ∧ ck iv L h0 d 207 [vr (fR s a0 1), vi a1] s (qa fun r4 s3 => ((r4 ≠ 2 → (kl s3 a0 = 1) ∧ (kl s3 (fR s3 a0 1) = 8) ∧ F 1 (uR s3 (fR s3 a0 1) 2 r4)) ∧ (r4 = 2 → F (-1) s3)))) : ck iv L h0 (d + 1) 12 [vr a0, vi a1] s (qi F) := by
  show wk iv L h0 (d + 1) 12 0 [lr a0, li a1] [] s (qi F)
  refine w_aload_n rfl rfl ?_
  obtain ⟨g1, H⟩ := H
  refine c_getr rfl rfl rfl g1 ?_
  refine w_iload_n rfl rfl ?_
  obtain ⟨g2, H⟩ := H
  refine c_virt (p := (fR s a0 1)) (as := [vi a1]) (r := []) rfl rfl rfl rfl rfl rfl g2 (wc_mono H (Nat.le_refl _) ?_)
  rintro _ s3 ⟨r4, rfl, H⟩
  show wk iv L h0 (d + 1) 12 8 [lr a0, li a1] [vr r4] s3 (qi F)
  refine w_astore_n rfl rfl ?_
  refine w_aload_n rfl rfl ?_
  refine c_nonnull rfl (fun h => ?_) (fun h => ?_)
  · replace H := H.1 h
    refine w_aload_n rfl rfl ?_
    obtain ⟨g5, H⟩ := H
    refine c_getr rfl rfl rfl g5 ?_
    refine w_aload_n rfl rfl ?_
    obtain ⟨g6, H⟩ := H
    refine c_putr rfl rfl rfl rfl g6 ?_
    refine w_iconst (n := 1) rfl rfl ?_
    exact w_iret rfl rfl ⟨_, rfl, H⟩
  · replace H := H.2 h
    refine w_iconst (n := (-1)) rfl rfl ?_
    exact w_iret rfl rfl ⟨_, rfl, H⟩

/-- HoleDesk.put(III)I -/
theorem C13 {iv : List (Int × Int)} {L : Nat} {h0 : MH} {d : Nat} {s : SC} {a0 : Nat} {a1 : Int} {a2 : Int} {a3 : Int} {F : Int → SC → Prop} (H : ((a1 < 0 → F (-1) s) ∧ (0 ≤ a1 → ((15 < a1 → F (-1) s) ∧ (a1 ≤ 15 → ck iv L h0 d 45 [vi a1, vi a2] s (qi fun r2 s1 => ((r2 = 0 → F (-1) s1) ∧ (r2 ≠ 0 → ck iv L h0 d 44 [vi a1] s1 (qi fun r4 s3 => ((r4 = 0 → (kl s3 a0 = 1) ∧ (kl s3 (fR s3 a0 1) = 8) ∧ (kl s3 (fR s3 (fR s3 a0 1) 2) = 5) ∧ ((fI s3 (fR s3 (fR s3 a0 1) 2) 1 ≠ 0 → (0 ≤ a1 ∧ a1 < 16) ∧ ((a1 = 0 → F (-4) s3) ∧ (a1 ≠ 0 → ((pO a1 ≠ 0 → (-2147483648 ≤ (fI s3 (fR s3 a0 1) 3) + (pO a1) ∧ (fI s3 (fR s3 a0 1) 3) + (pO a1) ≤ 2147483647) ∧ ((60 < (fI s3 (fR s3 a0 1) 3) + (pO a1) → F (-2) s3) ∧ ((fI s3 (fR s3 a0 1) 3) + (pO a1) ≤ 60 → ck iv L h0 d 205 [vr (fR s3 a0 1), vi (pO a1)] s3 (qi fun r11 s10 => ((r11 = 0 → wk iv L h0 (d + 1) 13 128 [lr a0, li a1, li a2, li a3, lr (fR s3 (fR s3 a0 1) 2), li 0, li (pO a1)] [] s10 (qi F)) ∧ (r11 ≠ 0 → F (-2) s10)))))) ∧ (pO a1 = 0 → F (-4) s3))))) ∧ (fI s3 (fR s3 (fR s3 a0 1) 2) 1 = 0 → (0 ≤ a1 ∧ a1 < 16) ∧ ((a1 = 0 → F (-4) s3) ∧ (a1 ≠ 0 → ((pO a1 ≠ 0 → (-2147483648 ≤ (fI s3 (fR s3 a0 1) 3) + (pO a1) ∧ (fI s3 (fR s3 a0 1) 3) + (pO a1) ≤ 2147483647) ∧ ((60 < (fI s3 (fR s3 a0 1) 3) + (pO a1) → F (-2) s3) ∧ ((fI s3 (fR s3 a0 1) 3) + (pO a1) ≤ 60 → (-2147483648 ≤ (pO a1) + 1 ∧ (pO a1) + 1 ≤ 2147483647) ∧ ck iv L h0 d 205 [vr (fR s3 a0 1), vi ((pO a1) + 1)] s3 (qi fun r16 s15 => ((r16 = 0 → wk iv L h0 (d + 1) 13 128 [lr a0, li a1, li a2, li a3, lr (fR s3 (fR s3 a0 1) 2), li 1, li (pO a1)] [] s15 (qi F)) ∧ (r16 ≠ 0 → F (-2) s15)))))) ∧ (pO a1 = 0 → (-2147483648 ≤ (fI s3 (fR s3 a0 1) 3) + (pO a1) ∧ (fI s3 (fR s3 a0 1) 3) + (pO a1) ≤ 2147483647) ∧ ((60 < (fI s3 (fR s3 a0 1) 3) + (pO a1) → F (-2) s3) ∧ ((fI s3 (fR s3 a0 1) 3) + (pO a1) ≤ 60 → (-2147483648 ≤ (pO a1) + 1 ∧ (pO a1) + 1 ≤ 2147483647) ∧ ck iv L h0 d 205 [vr (fR s3 a0 1), vi ((pO a1) + 1)] s3 (qi fun r20 s19 => ((r20 = 0 → wk iv L h0 (d + 1) 13 128 [lr a0, li a1, li a2, li a3, lr (fR s3 (fR s3 a0 1) 2), li 1, li (pO a1)] [] s19 (qi F)) ∧ (r20 ≠ 0 → F (-2) s19)))))))))))) ∧ (r4 ≠ 0 → (kl s3 a0 = 1) ∧ (kl s3 (fR s3 a0 0) = 4) ∧ ck iv L h0 d 176 [vr (fR s3 a0 0), vi a3] s3 (qi fun r24 s23 => ((r24 ≠ 0 → (kl s23 a0 = 1) ∧ (kl s23 (fR s23 a0 1) = 8) ∧ (kl s23 (fR s23 (fR s23 a0 1) 2) = 5) ∧ ((fI s23 (fR s23 (fR s23 a0 1) 2) 1 ≠ 0 → (0 ≤ a1 ∧ a1 < 16) ∧ ((a1 = 0 → F (-4) s23) ∧ (a1 ≠ 0 → ((pO a1 ≠ 0 → (-2147483648 ≤ (fI s23 (fR s23 a0 1) 3) + (pO a1) ∧ (fI s23 (fR s23 a0 1) 3) + (pO a1) ≤ 2147483647) ∧ ((60 < (fI s23 (fR s23 a0 1) 3) + (pO a1) → F (-2) s23) ∧ ((fI s23 (fR s23 a0 1) 3) + (pO a1) ≤ 60 → ck iv L h0 d 205 [vr (fR s23 a0 1), vi (pO a1)] s23 (qi fun r31 s30 => ((r31 = 0 → wk iv L h0 (d + 1) 13 128 [lr a0, li a1, li a2, li a3, lr (fR s23 (fR s23 a0 1) 2), li 0, li (pO a1)] [] s30 (qi F)) ∧ (r31 ≠ 0 → F (-2) s30)))))) ∧ (pO a1 = 0 → F (-4) s23))))) ∧ (fI s23 (fR s23 (fR s23 a0 1) 2) 1 = 0 → (0 ≤ a1 ∧ a1 < 16) ∧ ((a1 = 0 → F (-4) s23) ∧ (a1 ≠ 0 → ((pO a1 ≠ 0 → (-2147483648 ≤ (fI s23 (fR s23 a0 1) 3) + (pO a1) ∧ (fI s23 (fR s23 a0 1) 3) + (pO a1) ≤ 2147483647) ∧ ((60 < (fI s23 (fR s23 a0 1) 3) + (pO a1) → F (-2) s23) ∧ ((fI s23 (fR s23 a0 1) 3) + (pO a1) ≤ 60 → (-2147483648 ≤ (pO a1) + 1 ∧ (pO a1) + 1 ≤ 2147483647) ∧ ck iv L h0 d 205 [vr (fR s23 a0 1), vi ((pO a1) + 1)] s23 (qi fun r36 s35 => ((r36 = 0 → wk iv L h0 (d + 1) 13 128 [lr a0, li a1, li a2, li a3, lr (fR s23 (fR s23 a0 1) 2), li 1, li (pO a1)] [] s35 (qi F)) ∧ (r36 ≠ 0 → F (-2) s35)))))) ∧ (pO a1 = 0 → (-2147483648 ≤ (fI s23 (fR s23 a0 1) 3) + (pO a1) ∧ (fI s23 (fR s23 a0 1) 3) + (pO a1) ≤ 2147483647) ∧ ((60 < (fI s23 (fR s23 a0 1) 3) + (pO a1) → F (-2) s23) ∧ ((fI s23 (fR s23 a0 1) 3) + (pO a1) ≤ 60 → (-2147483648 ≤ (pO a1) + 1 ∧ (pO a1) + 1 ≤ 2147483647) ∧ ck iv L h0 d 205 [vr (fR s23 a0 1), vi ((pO a1) + 1)] s23 (qi fun r40 s39 => ((r40 = 0 → wk iv L h0 (d + 1) 13 128 [lr a0, li a1, li a2, li a3, lr (fR s23 (fR s23 a0 1) 2), li 1, li (pO a1)] [] s39 (qi F)) ∧ (r40 ≠ 0 → F (-2) s39)))))))))))) ∧ (r24 = 0 → F (-1) s23)))))))))))))) : ck iv L h0 (d + 1) 13 [vr a0, vi a1, vi a2, vi a3] s (qi F) := by
  show wk iv L h0 (d + 1) 13 0 [lr a0, li a1, li a2, li a3] [] s (qi F)
  refine w_iload_n rfl rfl ?_
  refine w_if_lt rfl (fun h => ?_) (fun h => ?_)
  · replace H := H.1 h
    refine w_iconst (n := (-1)) rfl rfl ?_
    exact w_iret rfl rfl ⟨_, rfl, H⟩
  · replace H := H.2 h
    refine w_iload_n rfl rfl ?_
    refine w_bipush (n := 15) rfl rfl rfl ?_
    refine w_icmp_gt rfl (fun h => ?_) (fun h => ?_)
    · replace H := H.1 h
      refine w_iconst (n := (-1)) rfl rfl ?_
      exact w_iret rfl rfl ⟨_, rfl, H⟩
    · replace H := H.2 h
      refine w_iload_n rfl rfl ?_
      refine w_iload_n rfl rfl ?_
      refine w_static (as := [vi a1, vi a2]) (r := []) rfl rfl rfl rfl rfl (wc_mono H (Nat.le_refl _) ?_)
      rintro _ s1 ⟨r2, rfl, H⟩
      show wk iv L h0 (d + 1) 13 15 [lr a0, li a1, li a2, li a3] [vi r2] s1 (qi F)
      refine w_if_eq rfl (fun h => ?_) (fun h => ?_)
      · replace H := H.1 h
        refine w_iconst (n := (-1)) rfl rfl ?_
        exact w_iret rfl rfl ⟨_, rfl, H⟩
      · replace H := H.2 h
        refine w_iload_n rfl rfl ?_
        refine w_static (as := [vi a1]) (r := []) rfl rfl rfl rfl rfl (wc_mono H (Nat.le_refl _) ?_)
        rintro _ s3 ⟨r4, rfl, H⟩
        show wk iv L h0 (d + 1) 13 22 [lr a0, li a1, li a2, li a3] [vi r4] s3 (qi F)
        refine w_if_eq rfl (fun h => ?_) (fun h => ?_)
        · replace H := H.1 h
          refine w_aload_n rfl rfl ?_
          obtain ⟨g5, H⟩ := H
          refine c_getr rfl rfl rfl g5 ?_
          obtain ⟨g6, H⟩ := H
          refine c_getr rfl rfl rfl g6 ?_
          refine w_astore rfl rfl ?_
          refine w_aload rfl rfl ?_
          obtain ⟨g7, H⟩ := H
          refine c_get rfl rfl rfl g7 ?_
          refine w_if_ne rfl (fun h => ?_) (fun h => ?_)
          · replace H := H.1 h
            refine w_iconst (n := 0) rfl rfl ?_
            refine w_istore rfl rfl ?_
            refine w_getst rfl (by decide) ?_
            refine w_iload_n rfl rfl ?_
            obtain ⟨g8, H⟩ := H
            refine w_pald rfl g8 ?_
            refine w_istore rfl rfl ?_
            refine w_iload_n rfl rfl ?_
            refine w_if_eq rfl (fun h => ?_) (fun h => ?_)
            · replace H := H.1 h
              refine w_bipush (n := (-4)) rfl rfl rfl ?_
              exact w_iret rfl rfl ⟨_, rfl, H⟩
            · replace H := H.2 h
              refine w_iload rfl rfl ?_
              refine w_if_ne rfl (fun h => ?_) (fun h => ?_)
              · replace H := H.1 h
                refine w_aload_n rfl rfl ?_
                refine c_getr rfl rfl rfl g5 ?_
                refine c_get rfl rfl rfl g6 ?_
                refine w_iload rfl rfl ?_
                obtain ⟨g9, H⟩ := H
                refine w_iadd rfl g9 ?_
                refine w_bipush (n := 60) rfl rfl rfl ?_
                refine w_icmp_gt rfl (fun h => ?_) (fun h => ?_)
                · replace H := H.1 h
                  refine w_bipush (n := (-2)) rfl rfl rfl ?_
                  exact w_iret rfl rfl ⟨_, rfl, H⟩
                · replace H := H.2 h
                  refine w_aload_n rfl rfl ?_
                  refine c_getr rfl rfl rfl g5 ?_
                  refine w_iload rfl rfl ?_
                  refine w_if_eq rfl (fun _ => ?_) (fun h => absurd h (by decide))
                  refine w_iload rfl rfl ?_
                  refine c_virt (p := (fR s3 a0 1)) (as := [vi (pO a1)]) (r := []) rfl rfl rfl rfl rfl rfl g6 (wc_mono H (Nat.le_refl _) ?_)
                  rintro _ s10 ⟨r11, rfl, H⟩
                  show wk iv L h0 (d + 1) 13 122 [lr a0, li a1, li a2, li a3, lr (fR s3 (fR s3 a0 1) 2), li 0, li (pO a1)] [vi r11] s10 (qi F)
                  refine w_if_eq rfl (fun h => ?_) (fun h => ?_)
                  · replace H := H.1 h
                    exact wp_ls (sl_s (sl_s (sl_s (sl_s (sl_s (sl_s (sl_s (sl_0)))))))) H
                  · replace H := H.2 h
                    refine w_bipush (n := (-2)) rfl rfl rfl ?_
                    exact w_iret rfl rfl ⟨_, rfl, H⟩
              · replace H := H.2 h
                refine w_iload rfl rfl ?_
                refine w_if_ne rfl (fun h => absurd h (by decide)) (fun _ => ?_)
                refine w_bipush (n := (-4)) rfl rfl rfl ?_
                exact w_iret rfl rfl ⟨_, rfl, H⟩
          · replace H := H.2 h
            refine w_iconst (n := 1) rfl rfl ?_
            refine w_goto rfl ?_
            refine w_istore rfl rfl ?_
            refine w_getst rfl (by decide) ?_
            refine w_iload_n rfl rfl ?_
            obtain ⟨g12, H⟩ := H
            refine w_pald rfl g12 ?_
            refine w_istore rfl rfl ?_
            refine w_iload_n rfl rfl ?_
            refine w_if_eq rfl (fun h => ?_) (fun h => ?_)
            · replace H := H.1 h
              refine w_bipush (n := (-4)) rfl rfl rfl ?_
              exact w_iret rfl rfl ⟨_, rfl, H⟩
            · replace H := H.2 h
              refine w_iload rfl rfl ?_
              refine w_if_ne rfl (fun h => ?_) (fun h => ?_)
              · replace H := H.1 h
                refine w_aload_n rfl rfl ?_
                refine c_getr rfl rfl rfl g5 ?_
                refine c_get rfl rfl rfl g6 ?_
                refine w_iload rfl rfl ?_
                obtain ⟨g13, H⟩ := H
                refine w_iadd rfl g13 ?_
                refine w_bipush (n := 60) rfl rfl rfl ?_
                refine w_icmp_gt rfl (fun h => ?_) (fun h => ?_)
                · replace H := H.1 h
                  refine w_bipush (n := (-2)) rfl rfl rfl ?_
                  exact w_iret rfl rfl ⟨_, rfl, H⟩
                · replace H := H.2 h
                  refine w_aload_n rfl rfl ?_
                  refine c_getr rfl rfl rfl g5 ?_
                  refine w_iload rfl rfl ?_
                  refine w_if_eq rfl (fun h => absurd h (by decide)) (fun _ => ?_)
                  refine w_iload rfl rfl ?_
                  refine w_iconst (n := 1) rfl rfl ?_
                  obtain ⟨g14, H⟩ := H
                  refine w_iadd rfl g14 ?_
                  refine w_goto rfl ?_
                  refine c_virt (p := (fR s3 a0 1)) (as := [vi ((pO a1) + 1)]) (r := []) rfl rfl rfl rfl rfl rfl g6 (wc_mono H (Nat.le_refl _) ?_)
                  rintro _ s15 ⟨r16, rfl, H⟩
                  show wk iv L h0 (d + 1) 13 122 [lr a0, li a1, li a2, li a3, lr (fR s3 (fR s3 a0 1) 2), li 1, li (pO a1)] [vi r16] s15 (qi F)
                  refine w_if_eq rfl (fun h => ?_) (fun h => ?_)
                  · replace H := H.1 h
                    exact wp_ls (sl_s (sl_s (sl_s (sl_s (sl_s (sl_s (sl_s (sl_0)))))))) H
                  · replace H := H.2 h
                    refine w_bipush (n := (-2)) rfl rfl rfl ?_
                    exact w_iret rfl rfl ⟨_, rfl, H⟩
              · replace H := H.2 h
                refine w_iload rfl rfl ?_
                refine w_if_ne rfl (fun _ => ?_) (fun h => absurd h (by decide))
                refine w_aload_n rfl rfl ?_
                refine c_getr rfl rfl rfl g5 ?_
                refine c_get rfl rfl rfl g6 ?_
                refine w_iload rfl rfl ?_
                obtain ⟨g17, H⟩ := H
                refine w_iadd rfl g17 ?_
                refine w_bipush (n := 60) rfl rfl rfl ?_
                refine w_icmp_gt rfl (fun h => ?_) (fun h => ?_)
                · replace H := H.1 h
                  refine w_bipush (n := (-2)) rfl rfl rfl ?_
                  exact w_iret rfl rfl ⟨_, rfl, H⟩
                · replace H := H.2 h
                  refine w_aload_n rfl rfl ?_
                  refine c_getr rfl rfl rfl g5 ?_
                  refine w_iload rfl rfl ?_
                  refine w_if_eq rfl (fun h => absurd h (by decide)) (fun _ => ?_)
                  refine w_iload rfl rfl ?_
                  refine w_iconst (n := 1) rfl rfl ?_
                  obtain ⟨g18, H⟩ := H
                  refine w_iadd rfl g18 ?_
                  refine w_goto rfl ?_
                  refine c_virt (p := (fR s3 a0 1)) (as := [vi ((pO a1) + 1)]) (r := []) rfl rfl rfl rfl rfl rfl g6 (wc_mono H (Nat.le_refl _) ?_)
                  rintro _ s19 ⟨r20, rfl, H⟩
                  show wk iv L h0 (d + 1) 13 122 [lr a0, li a1, li a2, li a3, lr (fR s3 (fR s3 a0 1) 2), li 1, li (pO a1)] [vi r20] s19 (qi F)
                  refine w_if_eq rfl (fun h => ?_) (fun h => ?_)
                  · replace H := H.1 h
                    exact wp_ls (sl_s (sl_s (sl_s (sl_s (sl_s (sl_s (sl_s (sl_0)))))))) H
                  · replace H := H.2 h
                    refine w_bipush (n := (-2)) rfl rfl rfl ?_
                    exact w_iret rfl rfl ⟨_, rfl, H⟩
        · replace H := H.2 h
          refine w_aload_n rfl rfl ?_
          obtain ⟨g21, H⟩ := H
          refine c_getr rfl rfl rfl g21 ?_
          refine w_iload_n rfl rfl ?_
          obtain ⟨g22, H⟩ := H
          refine c_virt (p := (fR s3 a0 0)) (as := [vi a3]) (r := []) rfl rfl rfl rfl rfl rfl g22 (wc_mono H (Nat.le_refl _) ?_)
          rintro _ s23 ⟨r24, rfl, H⟩
          show wk iv L h0 (d + 1) 13 33 [lr a0, li a1, li a2, li a3] [vi r24] s23 (qi F)
          refine w_if_ne rfl (fun h => ?_) (fun h => ?_)
          · replace H := H.1 h
            refine w_aload_n rfl rfl ?_
            obtain ⟨g25, H⟩ := H
            refine c_getr rfl rfl rfl g25 ?_
            obtain ⟨g26, H⟩ := H
            refine c_getr rfl rfl rfl g26 ?_
            refine w_astore rfl rfl ?_
            refine w_aload rfl rfl ?_
            obtain ⟨g27, H⟩ := H
            refine c_get rfl rfl rfl g27 ?_
            refine w_if_ne rfl (fun h => ?_) (fun h => ?_)
            · replace H := H.1 h
              refine w_iconst (n := 0) rfl rfl ?_
              refine w_istore rfl rfl ?_
              refine w_getst rfl (by decide) ?_
              refine w_iload_n rfl rfl ?_
              obtain ⟨g28, H⟩ := H
              refine w_pald rfl g28 ?_
              refine w_istore rfl rfl ?_
              refine w_iload_n rfl rfl ?_
              refine w_if_eq rfl (fun h => ?_) (fun h => ?_)
              · replace H := H.1 h
                refine w_bipush (n := (-4)) rfl rfl rfl ?_
                exact w_iret rfl rfl ⟨_, rfl, H⟩
              · replace H := H.2 h
                refine w_iload rfl rfl ?_
                refine w_if_ne rfl (fun h => ?_) (fun h => ?_)
                · replace H := H.1 h
                  refine w_aload_n rfl rfl ?_
                  refine c_getr rfl rfl rfl g25 ?_
                  refine c_get rfl rfl rfl g26 ?_
                  refine w_iload rfl rfl ?_
                  obtain ⟨g29, H⟩ := H
                  refine w_iadd rfl g29 ?_
                  refine w_bipush (n := 60) rfl rfl rfl ?_
                  refine w_icmp_gt rfl (fun h => ?_) (fun h => ?_)
                  · replace H := H.1 h
                    refine w_bipush (n := (-2)) rfl rfl rfl ?_
                    exact w_iret rfl rfl ⟨_, rfl, H⟩
                  · replace H := H.2 h
                    refine w_aload_n rfl rfl ?_
                    refine c_getr rfl rfl rfl g25 ?_
                    refine w_iload rfl rfl ?_
                    refine w_if_eq rfl (fun _ => ?_) (fun h => absurd h (by decide))
                    refine w_iload rfl rfl ?_
                    refine c_virt (p := (fR s23 a0 1)) (as := [vi (pO a1)]) (r := []) rfl rfl rfl rfl rfl rfl g26 (wc_mono H (Nat.le_refl _) ?_)
                    rintro _ s30 ⟨r31, rfl, H⟩
                    show wk iv L h0 (d + 1) 13 122 [lr a0, li a1, li a2, li a3, lr (fR s23 (fR s23 a0 1) 2), li 0, li (pO a1)] [vi r31] s30 (qi F)
                    refine w_if_eq rfl (fun h => ?_) (fun h => ?_)
                    · replace H := H.1 h
                      exact wp_ls (sl_s (sl_s (sl_s (sl_s (sl_s (sl_s (sl_s (sl_0)))))))) H
                    · replace H := H.2 h
                      refine w_bipush (n := (-2)) rfl rfl rfl ?_
                      exact w_iret rfl rfl ⟨_, rfl, H⟩
                · replace H := H.2 h
                  refine w_iload rfl rfl ?_
                  refine w_if_ne rfl (fun h => absurd h (by decide)) (fun _ => ?_)
                  refine w_bipush (n := (-4)) rfl rfl rfl ?_
                  exact w_iret rfl rfl ⟨_, rfl, H⟩
            · replace H := H.2 h
              refine w_iconst (n := 1) rfl rfl ?_
              refine w_goto rfl ?_
              refine w_istore rfl rfl ?_
              refine w_getst rfl (by decide) ?_
              refine w_iload_n rfl rfl ?_
              obtain ⟨g32, H⟩ := H
              refine w_pald rfl g32 ?_
              refine w_istore rfl rfl ?_
              refine w_iload_n rfl rfl ?_
              refine w_if_eq rfl (fun h => ?_) (fun h => ?_)
              · replace H := H.1 h
                refine w_bipush (n := (-4)) rfl rfl rfl ?_
                exact w_iret rfl rfl ⟨_, rfl, H⟩
              · replace H := H.2 h
                refine w_iload rfl rfl ?_
                refine w_if_ne rfl (fun h => ?_) (fun h => ?_)
                · replace H := H.1 h
                  refine w_aload_n rfl rfl ?_
                  refine c_getr rfl rfl rfl g25 ?_
                  refine c_get rfl rfl rfl g26 ?_
                  refine w_iload rfl rfl ?_
                  obtain ⟨g33, H⟩ := H
                  refine w_iadd rfl g33 ?_
                  refine w_bipush (n := 60) rfl rfl rfl ?_
                  refine w_icmp_gt rfl (fun h => ?_) (fun h => ?_)
                  · replace H := H.1 h
                    refine w_bipush (n := (-2)) rfl rfl rfl ?_
                    exact w_iret rfl rfl ⟨_, rfl, H⟩
                  · replace H := H.2 h
                    refine w_aload_n rfl rfl ?_
                    refine c_getr rfl rfl rfl g25 ?_
                    refine w_iload rfl rfl ?_
                    refine w_if_eq rfl (fun h => absurd h (by decide)) (fun _ => ?_)
                    refine w_iload rfl rfl ?_
                    refine w_iconst (n := 1) rfl rfl ?_
                    obtain ⟨g34, H⟩ := H
                    refine w_iadd rfl g34 ?_
                    refine w_goto rfl ?_
                    refine c_virt (p := (fR s23 a0 1)) (as := [vi ((pO a1) + 1)]) (r := []) rfl rfl rfl rfl rfl rfl g26 (wc_mono H (Nat.le_refl _) ?_)
                    rintro _ s35 ⟨r36, rfl, H⟩
                    show wk iv L h0 (d + 1) 13 122 [lr a0, li a1, li a2, li a3, lr (fR s23 (fR s23 a0 1) 2), li 1, li (pO a1)] [vi r36] s35 (qi F)
                    refine w_if_eq rfl (fun h => ?_) (fun h => ?_)
                    · replace H := H.1 h
                      exact wp_ls (sl_s (sl_s (sl_s (sl_s (sl_s (sl_s (sl_s (sl_0)))))))) H
                    · replace H := H.2 h
                      refine w_bipush (n := (-2)) rfl rfl rfl ?_
                      exact w_iret rfl rfl ⟨_, rfl, H⟩
                · replace H := H.2 h
                  refine w_iload rfl rfl ?_
                  refine w_if_ne rfl (fun _ => ?_) (fun h => absurd h (by decide))
                  refine w_aload_n rfl rfl ?_
                  refine c_getr rfl rfl rfl g25 ?_
                  refine c_get rfl rfl rfl g26 ?_
                  refine w_iload rfl rfl ?_
                  obtain ⟨g37, H⟩ := H
                  refine w_iadd rfl g37 ?_
                  refine w_bipush (n := 60) rfl rfl rfl ?_
                  refine w_icmp_gt rfl (fun h => ?_) (fun h => ?_)
                  · replace H := H.1 h
                    refine w_bipush (n := (-2)) rfl rfl rfl ?_
                    exact w_iret rfl rfl ⟨_, rfl, H⟩
                  · replace H := H.2 h
                    refine w_aload_n rfl rfl ?_
                    refine c_getr rfl rfl rfl g25 ?_
                    refine w_iload rfl rfl ?_
                    refine w_if_eq rfl (fun h => absurd h (by decide)) (fun _ => ?_)
                    refine w_iload rfl rfl ?_
                    refine w_iconst (n := 1) rfl rfl ?_
                    obtain ⟨g38, H⟩ := H
                    refine w_iadd rfl g38 ?_
                    refine w_goto rfl ?_
                    refine c_virt (p := (fR s23 a0 1)) (as := [vi ((pO a1) + 1)]) (r := []) rfl rfl rfl rfl rfl rfl g26 (wc_mono H (Nat.le_refl _) ?_)
                    rintro _ s39 ⟨r40, rfl, H⟩
                    show wk iv L h0 (d + 1) 13 122 [lr a0, li a1, li a2, li a3, lr (fR s23 (fR s23 a0 1) 2), li 1, li (pO a1)] [vi r40] s39 (qi F)
                    refine w_if_eq rfl (fun h => ?_) (fun h => ?_)
                    · replace H := H.1 h
                      exact wp_ls (sl_s (sl_s (sl_s (sl_s (sl_s (sl_s (sl_s (sl_0)))))))) H
                    · replace H := H.2 h
                      refine w_bipush (n := (-2)) rfl rfl rfl ?_
                      exact w_iret rfl rfl ⟨_, rfl, H⟩
          · replace H := H.2 h
            refine w_iconst (n := (-1)) rfl rfl ?_
            exact w_iret rfl rfl ⟨_, rfl, H⟩

/-- HoleDesk.put(III)I at 128 -/
theorem C13_128 {iv : List (Int × Int)} {L : Nat} {h0 : MH} {d : Nat} {s : SC} {l0 : Nat} {l1 : Int} {l2 : Int} {l3 : Int} {l4 : Nat} {l5 : Int} {l6 : Int} {F : Int → SC → Prop} (H : (kl s l0 = 1) ∧ (kl s (fR s l0 1) = 8) ∧ ck iv L h0 d 219 [vr (fR s l0 1)] s (qv fun s3 => (kl s3 l0 = 1) ∧ ck iv L h0 d 43 [vi l1] s3 (qi fun r6 s5 => ((r6 = 0 → ck iv L h0 d 44 [vi l1] s5 (qi fun r8 s7 => ((r8 = 0 → (kl s7 (fR s3 l0 1) = 8) ∧ ck iv L h0 d 204 [vr (fR s3 l0 1), vi l1, vi (-9), vi (-9)] s7 (qa fun r11 s10 => (kl s10 l0 = 1) ∧ (kl s10 (fR s10 l0 1) = 8) ∧ ck iv L h0 d 208 [vr (fR s10 l0 1), vr l4, vr r11] s10 (qv fun s14 => ((l5 ≠ 0 → ((l5 = 0 → wk iv L h0 (d + 1) 13 207 [lr l0, ln, ln, ln, ln, ln, li l6, lr r11, li 1] [] s14 (qi F)) ∧ (l5 ≠ 0 → wk iv L h0 (d + 1) 13 207 [lr l0, ln, ln, ln, ln, ln, li l6, lr r11, li 0] [] s14 (qi F)))) ∧ (l5 = 0 → (kl s14 r11 = 5) ∧ ck iv L h0 d 188 [vr r11, vi 0, vr l4] s14 (qv fun s16 => ((l5 = 0 → wk iv L h0 (d + 1) 13 207 [lr l0, ln, ln, ln, ln, ln, li l6, lr r11, li 1] [] s16 (qi F)) ∧ (l5 ≠ 0 → wk iv L h0 (d + 1) 13 207 [lr l0, ln, ln, ln, ln, ln, li l6, lr r11, li 0] [] s16 (qi F))))))))) ∧ (r8 ≠ 0 → (kl s7 (fR s3 l0 1) = 8) ∧ ck iv L h0 d 204 [vr (fR s3 l0 1), vi l1, vi (-9), vi l3] s7 (qa fun r19 s18 => (kl s18 l0 = 1) ∧ (kl s18 (fR s18 l0 1) = 8) ∧ ck iv L h0 d 208 [vr (fR s18 l0 1), vr l4, vr r19] s18 (qv fun s22 => ((l5 ≠ 0 → ((l5 = 0 → wk iv L h0 (d + 1) 13 207 [lr l0, ln, ln, ln, ln, ln, li l6, lr r19, li 1] [] s22 (qi F)) ∧ (l5 ≠ 0 → wk iv L h0 (d + 1) 13 207 [lr l0, ln, ln, ln, ln, ln, li l6, lr r19, li 0] [] s22 (qi F)))) ∧ (l5 = 0 → (kl s22 r19 = 5) ∧ ck iv L h0 d 188 [vr r19, vi 0, vr l4] s22 (qv fun s24 => ((l5 = 0 → wk iv L h0 (d + 1) 13 207 [lr l0, ln, ln, ln, ln, ln, li l6, lr r19, li 1] [] s24 (qi F)) ∧ (l5 ≠ 0 → wk iv L h0 (d + 1) 13 207 [lr l0, ln, ln, ln, ln, ln, li l6, lr r19, li 0] [] s24 (qi F)))))))))))) ∧ (r6 ≠ 0 → ck iv L h0 d 44 [vi l1] s5 (qi fun r26 s25 => ((r26 = 0 → (kl s25 (fR s3 l0 1) = 8) ∧ ck iv L h0 d 204 [vr (fR s3 l0 1), vi l1, vi l2, vi (-9)] s25 (qa fun r29 s28 => (kl s28 l0 = 1) ∧ (kl s28 (fR s28 l0 1) = 8) ∧ ck iv L h0 d 208 [vr (fR s28 l0 1), vr l4, vr r29] s28 (qv fun s32 => ((l5 ≠ 0 → ((l5 = 0 → wk iv L h0 (d + 1) 13 207 [lr l0, ln, ln, ln, ln, ln, li l6, lr r29, li 1] [] s32 (qi F)) ∧ (l5 ≠ 0 → wk iv L h0 (d + 1) 13 207 [lr l0, ln, ln, ln, ln, ln, li l6, lr r29, li 0] [] s32 (qi F)))) ∧ (l5 = 0 → (kl s32 r29 = 5) ∧ ck iv L h0 d 188 [vr r29, vi 0, vr l4] s32 (qv fun s34 => ((l5 = 0 → wk iv L h0 (d + 1) 13 207 [lr l0, ln, ln, ln, ln, ln, li l6, lr r29, li 1] [] s34 (qi F)) ∧ (l5 ≠ 0 → wk iv L h0 (d + 1) 13 207 [lr l0, ln, ln, ln, ln, ln, li l6, lr r29, li 0] [] s34 (qi F))))))))) ∧ (r26 ≠ 0 → (kl s25 (fR s3 l0 1) = 8) ∧ ck iv L h0 d 204 [vr (fR s3 l0 1), vi l1, vi l2, vi l3] s25 (qa fun r37 s36 => (kl s36 l0 = 1) ∧ (kl s36 (fR s36 l0 1) = 8) ∧ ck iv L h0 d 208 [vr (fR s36 l0 1), vr l4, vr r37] s36 (qv fun s40 => ((l5 ≠ 0 → ((l5 = 0 → wk iv L h0 (d + 1) 13 207 [lr l0, ln, ln, ln, ln, ln, li l6, lr r37, li 1] [] s40 (qi F)) ∧ (l5 ≠ 0 → wk iv L h0 (d + 1) 13 207 [lr l0, ln, ln, ln, ln, ln, li l6, lr r37, li 0] [] s40 (qi F)))) ∧ (l5 = 0 → (kl s40 r37 = 5) ∧ ck iv L h0 d 188 [vr r37, vi 0, vr l4] s40 (qv fun s42 => ((l5 = 0 → wk iv L h0 (d + 1) 13 207 [lr l0, ln, ln, ln, ln, ln, li l6, lr r37, li 1] [] s42 (qi F)) ∧ (l5 ≠ 0 → wk iv L h0 (d + 1) 13 207 [lr l0, ln, ln, ln, ln, ln, li l6, lr r37, li 0] [] s42 (qi F)))))))))))))))) : wk iv L h0 (d + 1) 13 128 [lr l0, li l1, li l2, li l3, lr l4, li l5, li l6] [] s (qi F) := by
  refine w_aload_n rfl rfl ?_
  obtain ⟨g1, H⟩ := H
  refine c_getr rfl rfl rfl g1 ?_
  obtain ⟨g2, H⟩ := H
  refine c_virt (p := (fR s l0 1)) (as := []) (r := []) rfl rfl rfl rfl rfl rfl g2 (wc_mono H (Nat.le_refl _) ?_)
  rintro _ s3 ⟨rfl, H⟩
  show wk iv L h0 (d + 1) 13 135 [lr l0, li l1, li l2, li l3, lr l4, li l5, li l6] [] s3 (qi F)
  refine w_aload_n rfl rfl ?_
  obtain ⟨g4, H⟩ := H
  refine c_getr rfl rfl rfl g4 ?_
  refine w_iload_n rfl rfl ?_
  refine w_iload_n rfl rfl ?_
  refine w_static (as := [vi l1]) (r := [vi l1, vr (fR s3 l0 1)]) rfl rfl rfl rfl rfl (wc_mono H (Nat.le_refl _) ?_)
  rintro _ s5 ⟨r6, rfl, H⟩
  show wk iv L h0 (d + 1) 13 144 [lr l0, li l1, li l2, li l3, lr l4, li l5, li l6] [vi r6, vi l1, vr (fR s3 l0 1)] s5 (qi F)
  refine w_if_eq rfl (fun h => ?_) (fun h => ?_)
  · replace H := H.1 h
    refine w_bipush (n := (-9)) rfl rfl rfl ?_
    refine w_iload_n rfl rfl ?_
    refine w_static (as := [vi l1]) (r := [vi (-9), vi l1, vr (fR s3 l0 1)]) rfl rfl rfl rfl rfl (wc_mono H (Nat.le_refl _) ?_)
    rintro _ s7 ⟨r8, rfl, H⟩
    show wk iv L h0 (d + 1) 13 157 [lr l0, li l1, li l2, li l3, lr l4, li l5, li l6] [vi r8, vi (-9), vi l1, vr (fR s3 l0 1)] s7 (qi F)
    refine w_if_eq rfl (fun h => ?_) (fun h => ?_)
    · replace H := H.1 h
      refine w_bipush (n := (-9)) rfl rfl rfl ?_
      obtain ⟨g9, H⟩ := H
      refine c_virt (p := (fR s3 l0 1)) (as := [vi l1, vi (-9), vi (-9)]) (r := []) rfl rfl rfl rfl rfl rfl g9 (wc_mono H (Nat.le_refl _) ?_)
      rintro _ s10 ⟨r11, rfl, H⟩
      show wk iv L h0 (d + 1) 13 169 [lr l0, li l1, li l2, li l3, lr l4, li l5, li l6] [vr r11] s10 (qi F)
      refine w_astore rfl rfl ?_
      refine w_aload_n rfl rfl ?_
      obtain ⟨g12, H⟩ := H
      refine c_getr rfl rfl rfl g12 ?_
      refine w_aload rfl rfl ?_
      refine w_aload rfl rfl ?_
      obtain ⟨g13, H⟩ := H
      refine c_virt (p := (fR s10 l0 1)) (as := [vr l4, vr r11]) (r := []) rfl rfl rfl rfl rfl rfl g13 (wc_mono H (Nat.le_refl _) ?_)
      rintro _ s14 ⟨rfl, H⟩
      show wk iv L h0 (d + 1) 13 182 [lr l0, li l1, li l2, li l3, lr l4, li l5, li l6, lr r11] [] s14 (qi F)
      refine w_iload rfl rfl ?_
      refine w_if_ne rfl (fun h => ?_) (fun h => ?_)
      · replace H := H.1 h
        refine w_iload rfl rfl ?_
        refine w_if_eq rfl (fun h => ?_) (fun h => ?_)
        · replace H := H.1 h
          refine w_iconst (n := 1) rfl rfl ?_
          refine w_istore rfl rfl ?_
          exact wp_ls (sl_s (sl_n (sl_n (sl_n (sl_n (sl_n (sl_s (sl_s (sl_s (sl_0)))))))))) H
        · replace H := H.2 h
          refine w_iconst (n := 0) rfl rfl ?_
          refine w_goto rfl ?_
          refine w_istore rfl rfl ?_
          exact wp_ls (sl_s (sl_n (sl_n (sl_n (sl_n (sl_n (sl_s (sl_s (sl_s (sl_0)))))))))) H
      · replace H := H.2 h
        refine w_aload rfl rfl ?_
        refine w_iconst (n := 0) rfl rfl ?_
        refine w_aload rfl rfl ?_
        obtain ⟨g15, H⟩ := H
        refine c_virt (p := r11) (as := [vi 0, vr l4]) (r := []) rfl rfl rfl rfl rfl rfl g15 (wc_mono H (Nat.le_refl _) ?_)
        rintro _ s16 ⟨rfl, H⟩
        show wk iv L h0 (d + 1) 13 195 [lr l0, li l1, li l2, li l3, lr l4, li l5, li l6, lr r11] [] s16 (qi F)
        refine w_iload rfl rfl ?_
        refine w_if_eq rfl (fun h => ?_) (fun h => ?_)
        · replace H := H.1 h
          refine w_iconst (n := 1) rfl rfl ?_
          refine w_istore rfl rfl ?_
          exact wp_ls (sl_s (sl_n (sl_n (sl_n (sl_n (sl_n (sl_s (sl_s (sl_s (sl_0)))))))))) H
        · replace H := H.2 h
          refine w_iconst (n := 0) rfl rfl ?_
          refine w_goto rfl ?_
          refine w_istore rfl rfl ?_
          exact wp_ls (sl_s (sl_n (sl_n (sl_n (sl_n (sl_n (sl_s (sl_s (sl_s (sl_0)))))))))) H
    · replace H := H.2 h
      refine w_iload_n rfl rfl ?_
      refine w_goto rfl ?_
      obtain ⟨g17, H⟩ := H
      refine c_virt (p := (fR s3 l0 1)) (as := [vi l1, vi (-9), vi l3]) (r := []) rfl rfl rfl rfl rfl rfl g17 (wc_mono H (Nat.le_refl _) ?_)
      rintro _ s18 ⟨r19, rfl, H⟩
      show wk iv L h0 (d + 1) 13 169 [lr l0, li l1, li l2, li l3, lr l4, li l5, li l6] [vr r19] s18 (qi F)
      refine w_astore rfl rfl ?_
      refine w_aload_n rfl rfl ?_
      obtain ⟨g20, H⟩ := H
      refine c_getr rfl rfl rfl g20 ?_
      refine w_aload rfl rfl ?_
      refine w_aload rfl rfl ?_
      obtain ⟨g21, H⟩ := H
      refine c_virt (p := (fR s18 l0 1)) (as := [vr l4, vr r19]) (r := []) rfl rfl rfl rfl rfl rfl g21 (wc_mono H (Nat.le_refl _) ?_)
      rintro _ s22 ⟨rfl, H⟩
      show wk iv L h0 (d + 1) 13 182 [lr l0, li l1, li l2, li l3, lr l4, li l5, li l6, lr r19] [] s22 (qi F)
      refine w_iload rfl rfl ?_
      refine w_if_ne rfl (fun h => ?_) (fun h => ?_)
      · replace H := H.1 h
        refine w_iload rfl rfl ?_
        refine w_if_eq rfl (fun h => ?_) (fun h => ?_)
        · replace H := H.1 h
          refine w_iconst (n := 1) rfl rfl ?_
          refine w_istore rfl rfl ?_
          exact wp_ls (sl_s (sl_n (sl_n (sl_n (sl_n (sl_n (sl_s (sl_s (sl_s (sl_0)))))))))) H
        · replace H := H.2 h
          refine w_iconst (n := 0) rfl rfl ?_
          refine w_goto rfl ?_
          refine w_istore rfl rfl ?_
          exact wp_ls (sl_s (sl_n (sl_n (sl_n (sl_n (sl_n (sl_s (sl_s (sl_s (sl_0)))))))))) H
      · replace H := H.2 h
        refine w_aload rfl rfl ?_
        refine w_iconst (n := 0) rfl rfl ?_
        refine w_aload rfl rfl ?_
        obtain ⟨g23, H⟩ := H
        refine c_virt (p := r19) (as := [vi 0, vr l4]) (r := []) rfl rfl rfl rfl rfl rfl g23 (wc_mono H (Nat.le_refl _) ?_)
        rintro _ s24 ⟨rfl, H⟩
        show wk iv L h0 (d + 1) 13 195 [lr l0, li l1, li l2, li l3, lr l4, li l5, li l6, lr r19] [] s24 (qi F)
        refine w_iload rfl rfl ?_
        refine w_if_eq rfl (fun h => ?_) (fun h => ?_)
        · replace H := H.1 h
          refine w_iconst (n := 1) rfl rfl ?_
          refine w_istore rfl rfl ?_
          exact wp_ls (sl_s (sl_n (sl_n (sl_n (sl_n (sl_n (sl_s (sl_s (sl_s (sl_0)))))))))) H
        · replace H := H.2 h
          refine w_iconst (n := 0) rfl rfl ?_
          refine w_goto rfl ?_
          refine w_istore rfl rfl ?_
          exact wp_ls (sl_s (sl_n (sl_n (sl_n (sl_n (sl_n (sl_s (sl_s (sl_s (sl_0)))))))))) H
  · replace H := H.2 h
    refine w_iload_n rfl rfl ?_
    refine w_goto rfl ?_
    refine w_iload_n rfl rfl ?_
    refine w_static (as := [vi l1]) (r := [vi l2, vi l1, vr (fR s3 l0 1)]) rfl rfl rfl rfl rfl (wc_mono H (Nat.le_refl _) ?_)
    rintro _ s25 ⟨r26, rfl, H⟩
    show wk iv L h0 (d + 1) 13 157 [lr l0, li l1, li l2, li l3, lr l4, li l5, li l6] [vi r26, vi l2, vi l1, vr (fR s3 l0 1)] s25 (qi F)
    refine w_if_eq rfl (fun h => ?_) (fun h => ?_)
    · replace H := H.1 h
      refine w_bipush (n := (-9)) rfl rfl rfl ?_
      obtain ⟨g27, H⟩ := H
      refine c_virt (p := (fR s3 l0 1)) (as := [vi l1, vi l2, vi (-9)]) (r := []) rfl rfl rfl rfl rfl rfl g27 (wc_mono H (Nat.le_refl _) ?_)
      rintro _ s28 ⟨r29, rfl, H⟩
      show wk iv L h0 (d + 1) 13 169 [lr l0, li l1, li l2, li l3, lr l4, li l5, li l6] [vr r29] s28 (qi F)
      refine w_astore rfl rfl ?_
      refine w_aload_n rfl rfl ?_
      obtain ⟨g30, H⟩ := H
      refine c_getr rfl rfl rfl g30 ?_
      refine w_aload rfl rfl ?_
      refine w_aload rfl rfl ?_
      obtain ⟨g31, H⟩ := H
      refine c_virt (p := (fR s28 l0 1)) (as := [vr l4, vr r29]) (r := []) rfl rfl rfl rfl rfl rfl g31 (wc_mono H (Nat.le_refl _) ?_)
      rintro _ s32 ⟨rfl, H⟩
      show wk iv L h0 (d + 1) 13 182 [lr l0, li l1, li l2, li l3, lr l4, li l5, li l6, lr r29] [] s32 (qi F)
      refine w_iload rfl rfl ?_
      refine w_if_ne rfl (fun h => ?_) (fun h => ?_)
      · replace H := H.1 h
        refine w_iload rfl rfl ?_
        refine w_if_eq rfl (fun h => ?_) (fun h => ?_)
        · replace H := H.1 h
          refine w_iconst (n := 1) rfl rfl ?_
          refine w_istore rfl rfl ?_
          exact wp_ls (sl_s (sl_n (sl_n (sl_n (sl_n (sl_n (sl_s (sl_s (sl_s (sl_0)))))))))) H
        · replace H := H.2 h
          refine w_iconst (n := 0) rfl rfl ?_
          refine w_goto rfl ?_
          refine w_istore rfl rfl ?_
          exact wp_ls (sl_s (sl_n (sl_n (sl_n (sl_n (sl_n (sl_s (sl_s (sl_s (sl_0)))))))))) H
      · replace H := H.2 h
        refine w_aload rfl rfl ?_
        refine w_iconst (n := 0) rfl rfl ?_
        refine w_aload rfl rfl ?_
        obtain ⟨g33, H⟩ := H
        refine c_virt (p := r29) (as := [vi 0, vr l4]) (r := []) rfl rfl rfl rfl rfl rfl g33 (wc_mono H (Nat.le_refl _) ?_)
        rintro _ s34 ⟨rfl, H⟩
        show wk iv L h0 (d + 1) 13 195 [lr l0, li l1, li l2, li l3, lr l4, li l5, li l6, lr r29] [] s34 (qi F)
        refine w_iload rfl rfl ?_
        refine w_if_eq rfl (fun h => ?_) (fun h => ?_)
        · replace H := H.1 h
          refine w_iconst (n := 1) rfl rfl ?_
          refine w_istore rfl rfl ?_
          exact wp_ls (sl_s (sl_n (sl_n (sl_n (sl_n (sl_n (sl_s (sl_s (sl_s (sl_0)))))))))) H
        · replace H := H.2 h
          refine w_iconst (n := 0) rfl rfl ?_
          refine w_goto rfl ?_
          refine w_istore rfl rfl ?_
          exact wp_ls (sl_s (sl_n (sl_n (sl_n (sl_n (sl_n (sl_s (sl_s (sl_s (sl_0)))))))))) H
    · replace H := H.2 h
      refine w_iload_n rfl rfl ?_
      refine w_goto rfl ?_
      obtain ⟨g35, H⟩ := H
      refine c_virt (p := (fR s3 l0 1)) (as := [vi l1, vi l2, vi l3]) (r := []) rfl rfl rfl rfl rfl rfl g35 (wc_mono H (Nat.le_refl _) ?_)
      rintro _ s36 ⟨r37, rfl, H⟩
      show wk iv L h0 (d + 1) 13 169 [lr l0, li l1, li l2, li l3, lr l4, li l5, li l6] [vr r37] s36 (qi F)
      refine w_astore rfl rfl ?_
      refine w_aload_n rfl rfl ?_
      obtain ⟨g38, H⟩ := H
      refine c_getr rfl rfl rfl g38 ?_
      refine w_aload rfl rfl ?_
      refine w_aload rfl rfl ?_
      obtain ⟨g39, H⟩ := H
      refine c_virt (p := (fR s36 l0 1)) (as := [vr l4, vr r37]) (r := []) rfl rfl rfl rfl rfl rfl g39 (wc_mono H (Nat.le_refl _) ?_)
      rintro _ s40 ⟨rfl, H⟩
      show wk iv L h0 (d + 1) 13 182 [lr l0, li l1, li l2, li l3, lr l4, li l5, li l6, lr r37] [] s40 (qi F)
      refine w_iload rfl rfl ?_
      refine w_if_ne rfl (fun h => ?_) (fun h => ?_)
      · replace H := H.1 h
        refine w_iload rfl rfl ?_
        refine w_if_eq rfl (fun h => ?_) (fun h => ?_)
        · replace H := H.1 h
          refine w_iconst (n := 1) rfl rfl ?_
          refine w_istore rfl rfl ?_
          exact wp_ls (sl_s (sl_n (sl_n (sl_n (sl_n (sl_n (sl_s (sl_s (sl_s (sl_0)))))))))) H
        · replace H := H.2 h
          refine w_iconst (n := 0) rfl rfl ?_
          refine w_goto rfl ?_
          refine w_istore rfl rfl ?_
          exact wp_ls (sl_s (sl_n (sl_n (sl_n (sl_n (sl_n (sl_s (sl_s (sl_s (sl_0)))))))))) H
      · replace H := H.2 h
        refine w_aload rfl rfl ?_
        refine w_iconst (n := 0) rfl rfl ?_
        refine w_aload rfl rfl ?_
        obtain ⟨g41, H⟩ := H
        refine c_virt (p := r37) (as := [vi 0, vr l4]) (r := []) rfl rfl rfl rfl rfl rfl g41 (wc_mono H (Nat.le_refl _) ?_)
        rintro _ s42 ⟨rfl, H⟩
        show wk iv L h0 (d + 1) 13 195 [lr l0, li l1, li l2, li l3, lr l4, li l5, li l6, lr r37] [] s42 (qi F)
        refine w_iload rfl rfl ?_
        refine w_if_eq rfl (fun h => ?_) (fun h => ?_)
        · replace H := H.1 h
          refine w_iconst (n := 1) rfl rfl ?_
          refine w_istore rfl rfl ?_
          exact wp_ls (sl_s (sl_n (sl_n (sl_n (sl_n (sl_n (sl_s (sl_s (sl_s (sl_0)))))))))) H
        · replace H := H.2 h
          refine w_iconst (n := 0) rfl rfl ?_
          refine w_goto rfl ?_
          refine w_istore rfl rfl ?_
          exact wp_ls (sl_s (sl_n (sl_n (sl_n (sl_n (sl_n (sl_s (sl_s (sl_s (sl_0)))))))))) H

/-- HoleDesk.put(III)I at 207 -/
theorem C13_207 {iv : List (Int × Int)} {L : Nat} {h0 : MH} {d : Nat} {s : SC} {l0 : Nat} {l6 : Int} {l7 : Nat} {l8 : Int} {F : Int → SC → Prop} (H : ((l6 ≤ l8 → (kl s l0 = 1) ∧ (kl s (fR s l0 1) = 8) ∧ ck iv L h0 d 52 [vr l0] (uR s (fR s l0 1) 2 l7) (qv fun s3 => (kl s3 l7 = 5) ∧ F (fI s3 l7 0) s3)) ∧ (l8 < l6 → (kl s l0 = 1) ∧ (kl s (fR s l0 1) = 8) ∧ ck iv L h0 d 204 [vr (fR s l0 1), vi 0, vi (-9), vi (-9)] s (qa fun r8 s7 => (kl s7 l7 = 5) ∧ ck iv L h0 d 188 [vr l7, vi l8, vr r8] s7 (qv fun s10 => (-2147483648 ≤ l8 + 1 ∧ l8 + 1 ≤ 2147483647) ∧ wk iv L h0 (d + 1) 13 207 [lr l0, ln, ln, ln, ln, ln, li l6, lr l7, li (l8 + 1)] [] s10 (qi F)))))) : wk iv L h0 (d + 1) 13 207 [lr l0, ln, ln, ln, ln, ln, li l6, lr l7, li l8] [] s (qi F) := by
  refine w_iload rfl rfl ?_
  refine w_iload rfl rfl ?_
  refine w_icmp_ge rfl (fun h => ?_) (fun h => ?_)
  · replace H := H.1 h
    refine w_aload_n rfl rfl ?_
    obtain ⟨g1, H⟩ := H
    refine c_getr rfl rfl rfl g1 ?_
    refine w_aload rfl rfl ?_
    obtain ⟨g2, H⟩ := H
    refine c_putr rfl rfl rfl rfl g2 ?_
    refine w_aload_n rfl rfl ?_
    refine c_virt (p := l0) (as := []) (r := []) rfl rfl rfl rfl rfl rfl g1 (wc_mono H (Nat.le_refl _) ?_)
    rintro _ s3 ⟨rfl, H⟩
    show wk iv L h0 (d + 1) 13 252 [lr l0, ln, ln, ln, ln, ln, li l6, lr l7, li l8] [] s3 (qi F)
    refine w_aload rfl rfl ?_
    obtain ⟨g4, H⟩ := H
    refine c_get rfl rfl rfl g4 ?_
    exact w_iret rfl rfl ⟨_, rfl, H⟩
  · replace H := H.2 h
    refine w_aload rfl rfl ?_
    refine w_iload rfl rfl ?_
    refine w_aload_n rfl rfl ?_
    obtain ⟨g5, H⟩ := H
    refine c_getr rfl rfl rfl g5 ?_
    refine w_iconst (n := 0) rfl rfl ?_
    refine w_bipush (n := (-9)) rfl rfl rfl ?_
    refine w_bipush (n := (-9)) rfl rfl rfl ?_
    obtain ⟨g6, H⟩ := H
    refine c_virt (p := (fR s l0 1)) (as := [vi 0, vi (-9), vi (-9)]) (r := [vi l8, vr l7]) rfl rfl rfl rfl rfl rfl g6 (wc_mono H (Nat.le_refl _) ?_)
    rintro _ s7 ⟨r8, rfl, H⟩
    show wk iv L h0 (d + 1) 13 230 [lr l0, ln, ln, ln, ln, ln, li l6, lr l7, li l8] [vr r8, vi l8, vr l7] s7 (qi F)
    obtain ⟨g9, H⟩ := H
    refine c_virt (p := l7) (as := [vi l8, vr r8]) (r := []) rfl rfl rfl rfl rfl rfl g9 (wc_mono H (Nat.le_refl _) ?_)
    rintro _ s10 ⟨rfl, H⟩
    show wk iv L h0 (d + 1) 13 233 [lr l0, ln, ln, ln, ln, ln, li l6, lr l7, li l8] [] s10 (qi F)
    obtain ⟨g11, H⟩ := H
    refine w_iinc rfl rfl rfl g11 ?_
    refine w_goto rfl ?_
    exact wp_ls (sl_s (sl_n (sl_n (sl_n (sl_n (sl_n (sl_s (sl_s (sl_s (sl_0)))))))))) H

/-- HoleDesk.take()I -/
theorem C14 {iv : List (Int × Int)} {L : Nat} {h0 : MH} {d : Nat} {s : SC} {a0 : Nat} {F : Int → SC → Prop} (H : (kl s a0 = 1) ∧ (kl s (fR s a0 1) = 8) ∧ (kl s (fR s (fR s a0 1) 2) = 5) ∧ ((fI s (fR s (fR s a0 1) 2) 1 ≠ 0 → ck iv L h0 d 205 [vr (fR s a0 1), vi 1] s (qi fun r5 s4 => ((r5 = 0 → (kl s4 a0 = 1) ∧ (kl s4 (fR s4 a0 1) = 8) ∧ ck iv L h0 d 219 [vr (fR s4 a0 1)] s4 (qv fun s8 => (kl s8 a0 = 1) ∧ (kl s8 (fR s8 a0 1) = 8) ∧ ck iv L h0 d 204 [vr (fR s8 a0 1), vi 0, vi (-9), vi (-9)] s8 (qa fun r12 s11 => (kl s11 a0 = 1) ∧ (kl s11 (fR s11 a0 1) = 8) ∧ ck iv L h0 d 208 [vr (fR s11 a0 1), vr (fR s (fR s a0 1) 2), vr r12] s11 (qv fun s15 => (kl s15 a0 = 1) ∧ (kl s15 (fR s15 a0 1) = 8) ∧ ck iv L h0 d 52 [vr a0] (uR s15 (fR s15 a0 1) 2 r12) (qv fun s18 => (kl s18 r12 = 5) ∧ F (fI s18 r12 0) s18))))) ∧ (r5 ≠ 0 → F (-2) s4)))) ∧ (fI s (fR s (fR s a0 1) 2) 1 = 0 → F (-4) s))) : ck iv L h0 (d + 1) 14 [vr a0] s (qi F) := by
  show wk iv L h0 (d + 1) 14 0 [lr a0] [] s (qi F)
  refine w_aload_n rfl rfl ?_
  obtain ⟨g1, H⟩ := H
  refine c_getr rfl rfl rfl g1 ?_
  obtain ⟨g2, H⟩ := H
  refine c_getr rfl rfl rfl g2 ?_
  refine w_astore_n rfl rfl ?_
  refine w_aload_n rfl rfl ?_
  obtain ⟨g3, H⟩ := H
  refine c_get rfl rfl rfl g3 ?_
  refine w_if_ne rfl (fun h => ?_) (fun h => ?_)
  · replace H := H.1 h
    refine w_aload_n rfl rfl ?_
    refine c_getr rfl rfl rfl g1 ?_
    refine w_iconst (n := 1) rfl rfl ?_
    refine c_virt (p := (fR s a0 1)) (as := [vi 1]) (r := []) rfl rfl rfl rfl rfl rfl g2 (wc_mono H (Nat.le_refl _) ?_)
    rintro _ s4 ⟨r5, rfl, H⟩
    show wk iv L h0 (d + 1) 14 26 [lr a0, lr (fR s (fR s a0 1) 2)] [vi r5] s4 (qi F)
    refine w_if_eq rfl (fun h => ?_) (fun h => ?_)
    · replace H := H.1 h
      refine w_aload_n rfl rfl ?_
      obtain ⟨g6, H⟩ := H
      refine c_getr rfl rfl rfl g6 ?_
      obtain ⟨g7, H⟩ := H
      refine c_virt (p := (fR s4 a0 1)) (as := []) (r := []) rfl rfl rfl rfl rfl rfl g7 (wc_mono H (Nat.le_refl _) ?_)
      rintro _ s8 ⟨rfl, H⟩
      show wk iv L h0 (d + 1) 14 39 [lr a0, lr (fR s (fR s a0 1) 2)] [] s8 (qi F)
      refine w_aload_n rfl rfl ?_
      obtain ⟨g9, H⟩ := H
      refine c_getr rfl rfl rfl g9 ?_
      refine w_iconst (n := 0) rfl rfl ?_
      refine w_bipush (n := (-9)) rfl rfl rfl ?_
      refine w_bipush (n := (-9)) rfl rfl rfl ?_
      obtain ⟨g10, H⟩ := H
      refine c_virt (p := (fR s8 a0 1)) (as := [vi 0, vi (-9), vi (-9)]) (r := []) rfl rfl rfl rfl rfl rfl g10 (wc_mono H (Nat.le_refl _) ?_)
      rintro _ s11 ⟨r12, rfl, H⟩
      show wk iv L h0 (d + 1) 14 51 [lr a0, lr (fR s (fR s a0 1) 2)] [vr r12] s11 (qi F)
      refine w_astore_n rfl rfl ?_
      refine w_aload_n rfl rfl ?_
      obtain ⟨g13, H⟩ := H
      refine c_getr rfl rfl rfl g13 ?_
      refine w_aload_n rfl rfl ?_
      refine w_aload_n rfl rfl ?_
      obtain ⟨g14, H⟩ := H
      refine c_virt (p := (fR s11 a0 1)) (as := [vr (fR s (fR s a0 1) 2), vr r12]) (r := []) rfl rfl rfl rfl rfl rfl g14 (wc_mono H (Nat.le_refl _) ?_)
      rintro _ s15 ⟨rfl, H⟩
      show wk iv L h0 (d + 1) 14 61 [lr a0, lr (fR s (fR s a0 1) 2), lr r12] [] s15 (qi F)
      refine w_aload_n rfl rfl ?_
      obtain ⟨g16, H⟩ := H
      refine c_getr rfl rfl rfl g16 ?_
      refine w_aload_n rfl rfl ?_
      obtain ⟨g17, H⟩ := H
      refine c_putr rfl rfl rfl rfl g17 ?_
      refine w_aload_n rfl rfl ?_
      refine c_virt (p := a0) (as := []) (r := []) rfl rfl rfl rfl rfl rfl g16 (wc_mono H (Nat.le_refl _) ?_)
      rintro _ s18 ⟨rfl, H⟩
      show wk iv L h0 (d + 1) 14 73 [lr a0, lr (fR s (fR s a0 1) 2), lr r12] [] s18 (qi F)
      refine w_aload_n rfl rfl ?_
      obtain ⟨g19, H⟩ := H
      refine c_get rfl rfl rfl g19 ?_
      exact w_iret rfl rfl ⟨_, rfl, H⟩
    · replace H := H.2 h
      refine w_bipush (n := (-2)) rfl rfl rfl ?_
      exact w_iret rfl rfl ⟨_, rfl, H⟩
  · replace H := H.2 h
    refine w_bipush (n := (-4)) rfl rfl rfl ?_
    exact w_iret rfl rfl ⟨_, rfl, H⟩

/-- HoleDesk.unwrap(I)I -/
theorem C15 {iv : List (Int × Int)} {L : Nat} {h0 : MH} {d : Nat} {s : SC} {a0 : Nat} {a1 : Int} {F : Int → SC → Prop} (H : (kl s a0 = 1) ∧ (kl s (fR s a0 1) = 8) ∧ (kl s (fR s (fR s a0 1) 2) = 5) ∧ (100 ≤ kl s (fR s (fR s (fR s a0 1) 2) 3) ∧ kl s (fR s (fR s (fR s a0 1) 2) 3) < 108) ∧ ((le s (fR s (fR s (fR s a0 1) 2) 3) ≠ 0 → ck iv L h0 d 187 [vr (fR s (fR s a0 1) 2), vi a1] s (qi fun r6 s5 => ((r6 ≠ 0 → (kl s5 a0 = 1) ∧ (kl s5 (fR s5 a0 1) = 8) ∧ ck iv L h0 d 219 [vr (fR s5 a0 1)] s5 (qv fun s9 => (kl s9 (fR s (fR s a0 1) 2) = 5) ∧ (kl s9 (fR s9 (fR s (fR s a0 1) 2) 3) = 103) ∧ (0 ≤ a1 ∧ a1 < le s9 (fR s9 (fR s (fR s a0 1) 2) 3)) ∧ (kl s9 a0 = 1) ∧ (kl s9 (fR s9 a0 1) = 8) ∧ ck iv L h0 d 208 [vr (fR s9 a0 1), vr (fR s (fR s a0 1) 2), vr (aR s9 (fR s9 (fR s (fR s a0 1) 2) 3) a1)] s9 (qv fun s15 => (kl s15 a0 = 1) ∧ (kl s15 (fR s15 a0 1) = 8) ∧ ck iv L h0 d 52 [vr a0] (uR s15 (fR s15 a0 1) 2 (aR s9 (fR s9 (fR s (fR s a0 1) 2) 3) a1)) (qv fun s18 => (kl s18 (aR s9 (fR s9 (fR s (fR s a0 1) 2) 3) a1) = 5) ∧ F (fI s18 (aR s9 (fR s9 (fR s (fR s a0 1) 2) 3) a1) 0) s18)))) ∧ (r6 = 0 → (kl s5 a0 = 1) ∧ ck iv L h0 d 47 [vr a0, vi 2] s5 (qi fun r22 s21 => F r22 s21))))) ∧ (le s (fR s (fR s (fR s a0 1) 2) 3) = 0 → F (-4) s))) : ck iv L h0 (d + 1) 15 [vr a0, vi a1] s (qi F) := by
  show wk iv L h0 (d + 1) 15 0 [lr a0, li a1] [] s (qi F)
  refine w_aload_n rfl rfl ?_
  obtain ⟨g1, H⟩ := H
  refine c_getr rfl rfl rfl g1 ?_
  obtain ⟨g2, H⟩ := H
  refine c_getr rfl rfl rfl g2 ?_
  refine w_astore_n rfl rfl ?_
  refine w_aload_n rfl rfl ?_
  obtain ⟨g3, H⟩ := H
  refine c_getr rfl rfl rfl g3 ?_
  obtain ⟨g4, H⟩ := H
  refine c_len rfl g4 ?_
  refine w_if_ne rfl (fun h => ?_) (fun h => ?_)
  · replace H := H.1 h
    refine w_aload_n rfl rfl ?_
    refine w_iload_n rfl rfl ?_
    refine c_virt (p := (fR s (fR s a0 1) 2)) (as := [vi a1]) (r := []) rfl rfl rfl rfl rfl rfl g3 (wc_mono H (Nat.le_refl _) ?_)
    rintro _ s5 ⟨r6, rfl, H⟩
    show wk iv L h0 (d + 1) 15 24 [lr a0, li a1, lr (fR s (fR s a0 1) 2)] [vi r6] s5 (qi F)
    refine w_if_ne rfl (fun h => ?_) (fun h => ?_)
    · replace H := H.1 h
      refine w_aload_n rfl rfl ?_
      obtain ⟨g7, H⟩ := H
      refine c_getr rfl rfl rfl g7 ?_
      obtain ⟨g8, H⟩ := H
      refine c_virt (p := (fR s5 a0 1)) (as := []) (r := []) rfl rfl rfl rfl rfl rfl g8 (wc_mono H (Nat.le_refl _) ?_)
      rintro _ s9 ⟨rfl, H⟩
      show wk iv L h0 (d + 1) 15 40 [lr a0, li a1, lr (fR s (fR s a0 1) 2)] [] s9 (qi F)
      refine w_aload_n rfl rfl ?_
      obtain ⟨g10, H⟩ := H
      refine c_getr rfl rfl rfl g10 ?_
      refine w_iload_n rfl rfl ?_
      obtain ⟨g11, H⟩ := H
      obtain ⟨g12, H⟩ := H
      refine c_aald (t := 3) rfl ⟨g11, by decide, by decide⟩ g12 ?_
      refine w_astore_n rfl rfl ?_
      refine w_aload_n rfl rfl ?_
      obtain ⟨g13, H⟩ := H
      refine c_getr rfl rfl rfl g13 ?_
      refine w_aload_n rfl rfl ?_
      refine w_aload_n rfl rfl ?_
      obtain ⟨g14, H⟩ := H
      refine c_virt (p := (fR s9 a0 1)) (as := [vr (fR s (fR s a0 1) 2), vr (aR s9 (fR s9 (fR s (fR s a0 1) 2) 3) a1)]) (r := []) rfl rfl rfl rfl rfl rfl g14 (wc_mono H (Nat.le_refl _) ?_)
      rintro _ s15 ⟨rfl, H⟩
      show wk iv L h0 (d + 1) 15 56 [lr a0, li a1, lr (fR s (fR s a0 1) 2), lr (aR s9 (fR s9 (fR s (fR s a0 1) 2) 3) a1)] [] s15 (qi F)
      refine w_aload_n rfl rfl ?_
      obtain ⟨g16, H⟩ := H
      refine c_getr rfl rfl rfl g16 ?_
      refine w_aload_n rfl rfl ?_
      obtain ⟨g17, H⟩ := H
      refine c_putr rfl rfl rfl rfl g17 ?_
      refine w_aload_n rfl rfl ?_
      refine c_virt (p := a0) (as := []) (r := []) rfl rfl rfl rfl rfl rfl g16 (wc_mono H (Nat.le_refl _) ?_)
      rintro _ s18 ⟨rfl, H⟩
      show wk iv L h0 (d + 1) 15 68 [lr a0, li a1, lr (fR s (fR s a0 1) 2), lr (aR s9 (fR s9 (fR s (fR s a0 1) 2) 3) a1)] [] s18 (qi F)
      refine w_aload_n rfl rfl ?_
      obtain ⟨g19, H⟩ := H
      refine c_get rfl rfl rfl g19 ?_
      exact w_iret rfl rfl ⟨_, rfl, H⟩
    · replace H := H.2 h
      refine w_aload_n rfl rfl ?_
      refine w_iconst (n := 2) rfl rfl ?_
      obtain ⟨g20, H⟩ := H
      refine c_virt (p := a0) (as := [vi 2]) (r := []) rfl rfl rfl rfl rfl rfl g20 (wc_mono H (Nat.le_refl _) ?_)
      rintro _ s21 ⟨r22, rfl, H⟩
      show wk iv L h0 (d + 1) 15 32 [lr a0, li a1, lr (fR s (fR s a0 1) 2)] [vi r22] s21 (qi F)
      exact w_iret rfl rfl ⟨_, rfl, H⟩
  · replace H := H.2 h
    refine w_bipush (n := (-4)) rfl rfl rfl ?_
    exact w_iret rfl rfl ⟨_, rfl, H⟩

/-- HoleDesk.write(I)I -/
theorem C16 {iv : List (Int × Int)} {L : Nat} {h0 : MH} {d : Nat} {s : SC} {a0 : Nat} {a1 : Int} {F : Int → SC → Prop} (H : (kl s a0 = 1) ∧ (kl s (fR s a0 1) = 8) ∧ (kl s (fR s (fR s a0 1) 2) = 5) ∧ ((fI s (fR s (fR s a0 1) 2) 1 = 1 → ck iv L h0 d 45 [vi (fI s (fR s (fR s a0 1) 2) 1), vi a1] s (qi fun r5 s4 => ((r5 ≠ 0 → (kl s4 a0 = 1) ∧ (kl s4 (fR s4 a0 1) = 8) ∧ ck iv L h0 d 219 [vr (fR s4 a0 1)] s4 (qv fun s8 => (kl s8 (fR s (fR s a0 1) 2) = 5) ∧ (kl s8 a0 = 1) ∧ ck iv L h0 d 52 [vr a0] (uI s8 (fR s (fR s a0 1) 2) 4 a1) (qv fun s11 => F (fI s8 (fR s (fR s a0 1) 2) 4) s11))) ∧ (r5 = 0 → F (-1) s4)))) ∧ (fI s (fR s (fR s a0 1) 2) 1 ≠ 1 → ((fI s (fR s (fR s a0 1) 2) 1 = 2 → ck iv L h0 d 45 [vi (fI s (fR s (fR s a0 1) 2) 1), vi a1] s (qi fun r13 s12 => ((r13 ≠ 0 → (kl s12 a0 = 1) ∧ (kl s12 (fR s12 a0 1) = 8) ∧ ck iv L h0 d 219 [vr (fR s12 a0 1)] s12 (qv fun s16 => (kl s16 (fR s (fR s a0 1) 2) = 5) ∧ (kl s16 a0 = 1) ∧ ck iv L h0 d 52 [vr a0] (uI s16 (fR s (fR s a0 1) 2) 4 a1) (qv fun s19 => F (fI s16 (fR s (fR s a0 1) 2) 4) s19))) ∧ (r13 = 0 → F (-1) s12)))) ∧ (fI s (fR s (fR s a0 1) 2) 1 ≠ 2 → ((fI s (fR s (fR s a0 1) 2) 1 = 3 → ck iv L h0 d 45 [vi (fI s (fR s (fR s a0 1) 2) 1), vi a1] s (qi fun r21 s20 => ((r21 ≠ 0 → (kl s20 a0 = 1) ∧ (kl s20 (fR s20 a0 1) = 8) ∧ ck iv L h0 d 219 [vr (fR s20 a0 1)] s20 (qv fun s24 => (kl s24 (fR s (fR s a0 1) 2) = 5) ∧ (kl s24 a0 = 1) ∧ ck iv L h0 d 52 [vr a0] (uI s24 (fR s (fR s a0 1) 2) 4 a1) (qv fun s27 => F (fI s24 (fR s (fR s a0 1) 2) 4) s27))) ∧ (r21 = 0 → F (-1) s20)))) ∧ (fI s (fR s (fR s a0 1) 2) 1 ≠ 3 → F (-4) s))))))) : ck iv L h0 (d + 1) 16 [vr a0, vi a1] s (qi F) := by
  show wk iv L h0 (d + 1) 16 0 [lr a0, li a1] [] s (qi F)
  refine w_aload_n rfl rfl ?_
  obtain ⟨g1, H⟩ := H
  refine c_getr rfl rfl rfl g1 ?_
  obtain ⟨g2, H⟩ := H
  refine c_getr rfl rfl rfl g2 ?_
  refine w_astore_n rfl rfl ?_
  refine w_aload_n rfl rfl ?_
  obtain ⟨g3, H⟩ := H
  refine c_get rfl rfl rfl g3 ?_
  refine w_iconst (n := 1) rfl rfl ?_
  refine w_icmp_eq rfl (fun h => ?_) (fun h => ?_)
  · replace H := H.1 h
    refine w_aload_n rfl rfl ?_
    refine c_get rfl rfl rfl g3 ?_
    refine w_iload_n rfl rfl ?_
    refine w_static (as := [vi (fI s (fR s (fR s a0 1) 2) 1), vi a1]) (r := []) rfl rfl rfl rfl rfl (wc_mono H (Nat.le_refl _) ?_)
    rintro _ s4 ⟨r5, rfl, H⟩
    show wk iv L h0 (d + 1) 16 43 [lr a0, li a1, lr (fR s (fR s a0 1) 2)] [vi r5] s4 (qi F)
    refine w_if_ne rfl (fun h => ?_) (fun h => ?_)
    · replace H := H.1 h
      refine w_aload_n rfl rfl ?_
      obtain ⟨g6, H⟩ := H
      refine c_getr rfl rfl rfl g6 ?_
      obtain ⟨g7, H⟩ := H
      refine c_virt (p := (fR s4 a0 1)) (as := []) (r := []) rfl rfl rfl rfl rfl rfl g7 (wc_mono H (Nat.le_refl _) ?_)
      rintro _ s8 ⟨rfl, H⟩
      show wk iv L h0 (d + 1) 16 55 [lr a0, li a1, lr (fR s (fR s a0 1) 2)] [] s8 (qi F)
      refine w_aload_n rfl rfl ?_
      obtain ⟨g9, H⟩ := H
      refine c_get rfl rfl rfl g9 ?_
      refine w_istore_n rfl rfl ?_
      refine w_aload_n rfl rfl ?_
      refine w_iload_n rfl rfl ?_
      refine c_put rfl rfl rfl rfl g9 ?_
      refine w_aload_n rfl rfl ?_
      obtain ⟨g10, H⟩ := H
      refine c_virt (p := a0) (as := []) (r := []) rfl rfl rfl rfl rfl rfl g10 (wc_mono H (Nat.le_refl _) ?_)
      rintro _ s11 ⟨rfl, H⟩
      show wk iv L h0 (d + 1) 16 69 [lr a0, li a1, lr (fR s (fR s a0 1) 2), li (fI s8 (fR s (fR s a0 1) 2) 4)] [] s11 (qi F)
      refine w_iload_n rfl rfl ?_
      exact w_iret rfl rfl ⟨_, rfl, H⟩
    · replace H := H.2 h
      refine w_iconst (n := (-1)) rfl rfl ?_
      exact w_iret rfl rfl ⟨_, rfl, H⟩
  · replace H := H.2 h
    refine w_aload_n rfl rfl ?_
    refine c_get rfl rfl rfl g3 ?_
    refine w_iconst (n := 2) rfl rfl ?_
    refine w_icmp_eq rfl (fun h => ?_) (fun h => ?_)
    · replace H := H.1 h
      refine w_aload_n rfl rfl ?_
      refine c_get rfl rfl rfl g3 ?_
      refine w_iload_n rfl rfl ?_
      refine w_static (as := [vi (fI s (fR s (fR s a0 1) 2) 1), vi a1]) (r := []) rfl rfl rfl rfl rfl (wc_mono H (Nat.le_refl _) ?_)
      rintro _ s12 ⟨r13, rfl, H⟩
      show wk iv L h0 (d + 1) 16 43 [lr a0, li a1, lr (fR s (fR s a0 1) 2)] [vi r13] s12 (qi F)
      refine w_if_ne rfl (fun h => ?_) (fun h => ?_)
      · replace H := H.1 h
        refine w_aload_n rfl rfl ?_
        obtain ⟨g14, H⟩ := H
        refine c_getr rfl rfl rfl g14 ?_
        obtain ⟨g15, H⟩ := H
        refine c_virt (p := (fR s12 a0 1)) (as := []) (r := []) rfl rfl rfl rfl rfl rfl g15 (wc_mono H (Nat.le_refl _) ?_)
        rintro _ s16 ⟨rfl, H⟩
        show wk iv L h0 (d + 1) 16 55 [lr a0, li a1, lr (fR s (fR s a0 1) 2)] [] s16 (qi F)
        refine w_aload_n rfl rfl ?_
        obtain ⟨g17, H⟩ := H
        refine c_get rfl rfl rfl g17 ?_
        refine w_istore_n rfl rfl ?_
        refine w_aload_n rfl rfl ?_
        refine w_iload_n rfl rfl ?_
        refine c_put rfl rfl rfl rfl g17 ?_
        refine w_aload_n rfl rfl ?_
        obtain ⟨g18, H⟩ := H
        refine c_virt (p := a0) (as := []) (r := []) rfl rfl rfl rfl rfl rfl g18 (wc_mono H (Nat.le_refl _) ?_)
        rintro _ s19 ⟨rfl, H⟩
        show wk iv L h0 (d + 1) 16 69 [lr a0, li a1, lr (fR s (fR s a0 1) 2), li (fI s16 (fR s (fR s a0 1) 2) 4)] [] s19 (qi F)
        refine w_iload_n rfl rfl ?_
        exact w_iret rfl rfl ⟨_, rfl, H⟩
      · replace H := H.2 h
        refine w_iconst (n := (-1)) rfl rfl ?_
        exact w_iret rfl rfl ⟨_, rfl, H⟩
    · replace H := H.2 h
      refine w_aload_n rfl rfl ?_
      refine c_get rfl rfl rfl g3 ?_
      refine w_iconst (n := 3) rfl rfl ?_
      refine w_icmp_eq rfl (fun h => ?_) (fun h => ?_)
      · replace H := H.1 h
        refine w_aload_n rfl rfl ?_
        refine c_get rfl rfl rfl g3 ?_
        refine w_iload_n rfl rfl ?_
        refine w_static (as := [vi (fI s (fR s (fR s a0 1) 2) 1), vi a1]) (r := []) rfl rfl rfl rfl rfl (wc_mono H (Nat.le_refl _) ?_)
        rintro _ s20 ⟨r21, rfl, H⟩
        show wk iv L h0 (d + 1) 16 43 [lr a0, li a1, lr (fR s (fR s a0 1) 2)] [vi r21] s20 (qi F)
        refine w_if_ne rfl (fun h => ?_) (fun h => ?_)
        · replace H := H.1 h
          refine w_aload_n rfl rfl ?_
          obtain ⟨g22, H⟩ := H
          refine c_getr rfl rfl rfl g22 ?_
          obtain ⟨g23, H⟩ := H
          refine c_virt (p := (fR s20 a0 1)) (as := []) (r := []) rfl rfl rfl rfl rfl rfl g23 (wc_mono H (Nat.le_refl _) ?_)
          rintro _ s24 ⟨rfl, H⟩
          show wk iv L h0 (d + 1) 16 55 [lr a0, li a1, lr (fR s (fR s a0 1) 2)] [] s24 (qi F)
          refine w_aload_n rfl rfl ?_
          obtain ⟨g25, H⟩ := H
          refine c_get rfl rfl rfl g25 ?_
          refine w_istore_n rfl rfl ?_
          refine w_aload_n rfl rfl ?_
          refine w_iload_n rfl rfl ?_
          refine c_put rfl rfl rfl rfl g25 ?_
          refine w_aload_n rfl rfl ?_
          obtain ⟨g26, H⟩ := H
          refine c_virt (p := a0) (as := []) (r := []) rfl rfl rfl rfl rfl rfl g26 (wc_mono H (Nat.le_refl _) ?_)
          rintro _ s27 ⟨rfl, H⟩
          show wk iv L h0 (d + 1) 16 69 [lr a0, li a1, lr (fR s (fR s a0 1) 2), li (fI s24 (fR s (fR s a0 1) 2) 4)] [] s27 (qi F)
          refine w_iload_n rfl rfl ?_
          exact w_iret rfl rfl ⟨_, rfl, H⟩
        · replace H := H.2 h
          refine w_iconst (n := (-1)) rfl rfl ?_
          exact w_iret rfl rfl ⟨_, rfl, H⟩
      · replace H := H.2 h
        refine w_bipush (n := (-4)) rfl rfl rfl ?_
        exact w_iret rfl rfl ⟨_, rfl, H⟩

/-- HoleDesk.rename(I)I -/
theorem C17 {iv : List (Int × Int)} {L : Nat} {h0 : MH} {d : Nat} {s : SC} {a0 : Nat} {a1 : Int} {F : Int → SC → Prop} (H : ck iv L h0 d 40 [vi a1] s (qi fun r2 s1 => ((r2 ≠ 0 → (kl s1 a0 = 1) ∧ (kl s1 (fR s1 a0 1) = 8) ∧ (kl s1 (fR s1 (fR s1 a0 1) 2) = 5) ∧ ((fI s1 (fR s1 (fR s1 a0 1) 2) 1 = 8 → ck iv L h0 d 214 [vr (fR s1 a0 1), vr (fR s1 (fR s1 a0 1) 2), vi a1] s1 (qi fun r7 s6 => ((r7 = 0 → (kl s6 a0 = 1) ∧ (kl s6 (fR s6 a0 1) = 8) ∧ ck iv L h0 d 219 [vr (fR s6 a0 1)] s6 (qv fun s10 => (kl s10 a0 = 1) ∧ (kl s10 (fR s10 a0 1) = 8) ∧ ck iv L h0 d 215 [vr (fR s10 a0 1), vr (fR s1 (fR s1 a0 1) 2), vi a1] s10 (qi fun r14 s13 => (kl s13 a0 = 1) ∧ ck iv L h0 d 52 [vr a0] s13 (qv fun s16 => F r14 s16)))) ∧ (r7 ≠ 0 → F (-6) s6)))) ∧ (fI s1 (fR s1 (fR s1 a0 1) 2) 1 ≠ 8 → ((fI s1 (fR s1 (fR s1 a0 1) 2) 1 = 10 → ck iv L h0 d 214 [vr (fR s1 a0 1), vr (fR s1 (fR s1 a0 1) 2), vi a1] s1 (qi fun r18 s17 => ((r18 = 0 → (kl s17 a0 = 1) ∧ (kl s17 (fR s17 a0 1) = 8) ∧ ck iv L h0 d 219 [vr (fR s17 a0 1)] s17 (qv fun s21 => (kl s21 a0 = 1) ∧ (kl s21 (fR s21 a0 1) = 8) ∧ ck iv L h0 d 215 [vr (fR s21 a0 1), vr (fR s1 (fR s1 a0 1) 2), vi a1] s21 (qi fun r25 s24 => (kl s24 a0 = 1) ∧ ck iv L h0 d 52 [vr a0] s24 (qv fun s27 => F r25 s27)))) ∧ (r18 ≠ 0 → F (-6) s17)))) ∧ (fI s1 (fR s1 (fR s1 a0 1) 2) 1 ≠ 10 → F (-4) s1))))) ∧ (r2 = 0 → F (-1) s1)))) : ck iv L h0 (d + 1) 17 [vr a0, vi a1] s (qi F) := by
  show wk iv L h0 (d + 1) 17 0 [lr a0, li a1] [] s (qi F)
  refine w_iload_n rfl rfl ?_
  refine w_static (as := [vi a1]) (r := []) rfl rfl rfl rfl rfl (wc_mono H (Nat.le_refl _) ?_)
  rintro _ s1 ⟨r2, rfl, H⟩
  show wk iv L h0 (d + 1) 17 4 [lr a0, li a1] [vi r2] s1 (qi F)
  refine w_if_ne rfl (fun h => ?_) (fun h => ?_)
  · replace H := H.1 h
    refine w_aload_n rfl rfl ?_
    obtain ⟨g3, H⟩ := H
    refine c_getr rfl rfl rfl g3 ?_
    obtain ⟨g4, H⟩ := H
    refine c_getr rfl rfl rfl g4 ?_
    refine w_astore_n rfl rfl ?_
    refine w_aload_n rfl rfl ?_
    obtain ⟨g5, H⟩ := H
    refine c_get rfl rfl rfl g5 ?_
    refine w_bipush (n := 8) rfl rfl rfl ?_
    refine w_icmp_eq rfl (fun h => ?_) (fun h => ?_)
    · replace H := H.1 h
      refine w_aload_n rfl rfl ?_
      refine c_getr rfl rfl rfl g3 ?_
      refine w_aload_n rfl rfl ?_
      refine w_iload_n rfl rfl ?_
      refine c_virt (p := (fR s1 a0 1)) (as := [vr (fR s1 (fR s1 a0 1) 2), vi a1]) (r := []) rfl rfl rfl rfl rfl rfl g4 (wc_mono H (Nat.le_refl _) ?_)
      rintro _ s6 ⟨r7, rfl, H⟩
      show wk iv L h0 (d + 1) 17 47 [lr a0, li a1, lr (fR s1 (fR s1 a0 1) 2)] [vi r7] s6 (qi F)
      refine w_if_eq rfl (fun h => ?_) (fun h => ?_)
      · replace H := H.1 h
        refine w_aload_n rfl rfl ?_
        obtain ⟨g8, H⟩ := H
        refine c_getr rfl rfl rfl g8 ?_
        obtain ⟨g9, H⟩ := H
        refine c_virt (p := (fR s6 a0 1)) (as := []) (r := []) rfl rfl rfl rfl rfl rfl g9 (wc_mono H (Nat.le_refl _) ?_)
        rintro _ s10 ⟨rfl, H⟩
        show wk iv L h0 (d + 1) 17 60 [lr a0, li a1, lr (fR s1 (fR s1 a0 1) 2)] [] s10 (qi F)
        refine w_aload_n rfl rfl ?_
        obtain ⟨g11, H⟩ := H
        refine c_getr rfl rfl rfl g11 ?_
        refine w_aload_n rfl rfl ?_
        refine w_iload_n rfl rfl ?_
        obtain ⟨g12, H⟩ := H
        refine c_virt (p := (fR s10 a0 1)) (as := [vr (fR s1 (fR s1 a0 1) 2), vi a1]) (r := []) rfl rfl rfl rfl rfl rfl g12 (wc_mono H (Nat.le_refl _) ?_)
        rintro _ s13 ⟨r14, rfl, H⟩
        show wk iv L h0 (d + 1) 17 69 [lr a0, li a1, lr (fR s1 (fR s1 a0 1) 2)] [vi r14] s13 (qi F)
        refine w_istore_n rfl rfl ?_
        refine w_aload_n rfl rfl ?_
        obtain ⟨g15, H⟩ := H
        refine c_virt (p := a0) (as := []) (r := []) rfl rfl rfl rfl rfl rfl g15 (wc_mono H (Nat.le_refl _) ?_)
        rintro _ s16 ⟨rfl, H⟩
        show wk iv L h0 (d + 1) 17 74 [lr a0, li a1, lr (fR s1 (fR s1 a0 1) 2), li r14] [] s16 (qi F)
        refine w_iload_n rfl rfl ?_
        exact w_iret rfl rfl ⟨_, rfl, H⟩
      · replace H := H.2 h
        refine w_bipush (n := (-6)) rfl rfl rfl ?_
        exact w_iret rfl rfl ⟨_, rfl, H⟩
    · replace H := H.2 h
      refine w_aload_n rfl rfl ?_
      refine c_get rfl rfl rfl g5 ?_
      refine w_bipush (n := 10) rfl rfl rfl ?_
      refine w_icmp_eq rfl (fun h => ?_) (fun h => ?_)
      · replace H := H.1 h
        refine w_aload_n rfl rfl ?_
        refine c_getr rfl rfl rfl g3 ?_
        refine w_aload_n rfl rfl ?_
        refine w_iload_n rfl rfl ?_
        refine c_virt (p := (fR s1 a0 1)) (as := [vr (fR s1 (fR s1 a0 1) 2), vi a1]) (r := []) rfl rfl rfl rfl rfl rfl g4 (wc_mono H (Nat.le_refl _) ?_)
        rintro _ s17 ⟨r18, rfl, H⟩
        show wk iv L h0 (d + 1) 17 47 [lr a0, li a1, lr (fR s1 (fR s1 a0 1) 2)] [vi r18] s17 (qi F)
        refine w_if_eq rfl (fun h => ?_) (fun h => ?_)
        · replace H := H.1 h
          refine w_aload_n rfl rfl ?_
          obtain ⟨g19, H⟩ := H
          refine c_getr rfl rfl rfl g19 ?_
          obtain ⟨g20, H⟩ := H
          refine c_virt (p := (fR s17 a0 1)) (as := []) (r := []) rfl rfl rfl rfl rfl rfl g20 (wc_mono H (Nat.le_refl _) ?_)
          rintro _ s21 ⟨rfl, H⟩
          show wk iv L h0 (d + 1) 17 60 [lr a0, li a1, lr (fR s1 (fR s1 a0 1) 2)] [] s21 (qi F)
          refine w_aload_n rfl rfl ?_
          obtain ⟨g22, H⟩ := H
          refine c_getr rfl rfl rfl g22 ?_
          refine w_aload_n rfl rfl ?_
          refine w_iload_n rfl rfl ?_
          obtain ⟨g23, H⟩ := H
          refine c_virt (p := (fR s21 a0 1)) (as := [vr (fR s1 (fR s1 a0 1) 2), vi a1]) (r := []) rfl rfl rfl rfl rfl rfl g23 (wc_mono H (Nat.le_refl _) ?_)
          rintro _ s24 ⟨r25, rfl, H⟩
          show wk iv L h0 (d + 1) 17 69 [lr a0, li a1, lr (fR s1 (fR s1 a0 1) 2)] [vi r25] s24 (qi F)
          refine w_istore_n rfl rfl ?_
          refine w_aload_n rfl rfl ?_
          obtain ⟨g26, H⟩ := H
          refine c_virt (p := a0) (as := []) (r := []) rfl rfl rfl rfl rfl rfl g26 (wc_mono H (Nat.le_refl _) ?_)
          rintro _ s27 ⟨rfl, H⟩
          show wk iv L h0 (d + 1) 17 74 [lr a0, li a1, lr (fR s1 (fR s1 a0 1) 2), li r25] [] s27 (qi F)
          refine w_iload_n rfl rfl ?_
          exact w_iret rfl rfl ⟨_, rfl, H⟩
        · replace H := H.2 h
          refine w_bipush (n := (-6)) rfl rfl rfl ?_
          exact w_iret rfl rfl ⟨_, rfl, H⟩
      · replace H := H.2 h
        refine w_bipush (n := (-4)) rfl rfl rfl ?_
        exact w_iret rfl rfl ⟨_, rfl, H⟩
  · replace H := H.2 h
    refine w_iconst (n := (-1)) rfl rfl ?_
    exact w_iret rfl rfl ⟨_, rfl, H⟩

/-- HoleDesk.move(I)I -/
theorem C18 {iv : List (Int × Int)} {L : Nat} {h0 : MH} {d : Nat} {s : SC} {a0 : Nat} {a1 : Int} {F : Int → SC → Prop} (H : (kl s a0 = 1) ∧ (kl s (fR s a0 1) = 8) ∧ ck iv L h0 d 207 [vr (fR s a0 1), vi a1] s (qa fun r4 s3 => ((r4 ≠ 2 → (kl s3 a0 = 1) ∧ (kl s3 (fR s3 a0 1) = 8) ∧ (kl s3 r4 = 5) ∧ ((fI s3 r4 1 ≠ 0 → F (-4) s3) ∧ (fI s3 r4 1 = 0 → ck iv L h0 d 210 [vr (fR s3 a0 1), vr r4, vr (fR s3 (fR s3 a0 1) 2)] s3 (qi fun r9 s8 => ((r9 = 0 → (kl s8 a0 = 1) ∧ (kl s8 (fR s8 a0 1) = 8) ∧ ck iv L h0 d 205 [vr (fR s8 a0 1), vi 1] s8 (qi fun r13 s12 => ((r13 = 0 → (kl s12 a0 = 1) ∧ (kl s12 (fR s12 a0 1) = 8) ∧ ck iv L h0 d 216 [vr (fR s12 a0 1), vr (fR s3 (fR s3 a0 1) 2), vr r4] s12 (qi fun r17 s16 => ((r17 = 0 → (kl s16 a0 = 1) ∧ (kl s16 (fR s16 a0 1) = 8) ∧ ck iv L h0 d 219 [vr (fR s16 a0 1)] s16 (qv fun s20 => (kl s20 a0 = 1) ∧ (kl s20 (fR s20 a0 1) = 8) ∧ ck iv L h0 d 204 [vr (fR s20 a0 1), vi 0, vi (-9), vi (-9)] s20 (qa fun r24 s23 => (kl s23 a0 = 1) ∧ (kl s23 (fR s23 a0 1) = 8) ∧ ck iv L h0 d 208 [vr (fR s23 a0 1), vr (fR s3 (fR s3 a0 1) 2), vr r24] s23 (qv fun s27 => (kl s27 a0 = 1) ∧ (kl s27 (fR s27 a0 1) = 8) ∧ ck iv L h0 d 208 [vr (fR s27 a0 1), vr r4, vr (fR s3 (fR s3 a0 1) 2)] s27 (qv fun s30 => (kl s30 a0 = 1) ∧ ck iv L h0 d 52 [vr a0] s30 (qv fun s32 => (kl s32 r24 = 5) ∧ F (fI s32 r24 0) s32)))))) ∧ (r17 ≠ 0 → F (-6) s16)))) ∧ (r13 ≠ 0 → F (-2) s12)))) ∧ (r9 ≠ 0 → F (-4) s8)))))) ∧ (r4 = 2 → F (-1) s3)))) : ck iv L h0 (d + 1) 18 [vr a0, vi a1] s (qi F) := by
  show wk iv L h0 (d + 1) 18 0 [lr a0, li a1] [] s (qi F)
  refine w_aload_n rfl rfl ?_
  obtain ⟨g1, H⟩ := H
  refine c_getr rfl rfl rfl g1 ?_
  refine w_iload_n rfl rfl ?_
  obtain ⟨g2, H⟩ := H
  refine c_virt (p := (fR s a0 1)) (as := [vi a1]) (r := []) rfl rfl rfl rfl rfl rfl g2 (wc_mono H (Nat.le_refl _) ?_)
  rintro _ s3 ⟨r4, rfl, H⟩
  show wk iv L h0 (d + 1) 18 8 [lr a0, li a1] [vr r4] s3 (qi F)
  refine w_astore_n rfl rfl ?_
  refine w_aload_n rfl rfl ?_
  refine c_nonnull rfl (fun h => ?_) (fun h => ?_)
  · replace H := H.1 h
    refine w_aload_n rfl rfl ?_
    obtain ⟨g5, H⟩ := H
    refine c_getr rfl rfl rfl g5 ?_
    obtain ⟨g6, H⟩ := H
    refine c_getr rfl rfl rfl g6 ?_
    refine w_astore_n rfl rfl ?_
    refine w_aload_n rfl rfl ?_
    obtain ⟨g7, H⟩ := H
    refine c_get rfl rfl rfl g7 ?_
    refine w_if_ne rfl (fun h => ?_) (fun h => ?_)
    · replace H := H.1 h
      refine w_bipush (n := (-4)) rfl rfl rfl ?_
      exact w_iret rfl rfl ⟨_, rfl, H⟩
    · replace H := H.2 h
      refine w_aload_n rfl rfl ?_
      refine c_getr rfl rfl rfl g5 ?_
      refine w_aload_n rfl rfl ?_
      refine w_aload_n rfl rfl ?_
      refine c_virt (p := (fR s3 a0 1)) (as := [vr r4, vr (fR s3 (fR s3 a0 1) 2)]) (r := []) rfl rfl rfl rfl rfl rfl g6 (wc_mono H (Nat.le_refl _) ?_)
      rintro _ s8 ⟨r9, rfl, H⟩
      show wk iv L h0 (d + 1) 18 39 [lr a0, li a1, lr r4, lr (fR s3 (fR s3 a0 1) 2)] [vi r9] s8 (qi F)
      refine w_if_eq rfl (fun h => ?_) (fun h => ?_)
      · replace H := H.1 h
        refine w_aload_n rfl rfl ?_
        obtain ⟨g10, H⟩ := H
        refine c_getr rfl rfl rfl g10 ?_
        refine w_iconst (n := 1) rfl rfl ?_
        obtain ⟨g11, H⟩ := H
        refine c_virt (p := (fR s8 a0 1)) (as := [vi 1]) (r := []) rfl rfl rfl rfl rfl rfl g11 (wc_mono H (Nat.le_refl _) ?_)
        rintro _ s12 ⟨r13, rfl, H⟩
        show wk iv L h0 (d + 1) 18 53 [lr a0, li a1, lr r4, lr (fR s3 (fR s3 a0 1) 2)] [vi r13] s12 (qi F)
        refine w_if_eq rfl (fun h => ?_) (fun h => ?_)
        · replace H := H.1 h
          refine w_aload_n rfl rfl ?_
          obtain ⟨g14, H⟩ := H
          refine c_getr rfl rfl rfl g14 ?_
          refine w_aload_n rfl rfl ?_
          refine w_aload_n rfl rfl ?_
          obtain ⟨g15, H⟩ := H
          refine c_virt (p := (fR s12 a0 1)) (as := [vr (fR s3 (fR s3 a0 1) 2), vr r4]) (r := []) rfl rfl rfl rfl rfl rfl g15 (wc_mono H (Nat.le_refl _) ?_)
          rintro _ s16 ⟨r17, rfl, H⟩
          show wk iv L h0 (d + 1) 18 68 [lr a0, li a1, lr r4, lr (fR s3 (fR s3 a0 1) 2)] [vi r17] s16 (qi F)
          refine w_if_eq rfl (fun h => ?_) (fun h => ?_)
          · replace H := H.1 h
            refine w_aload_n rfl rfl ?_
            obtain ⟨g18, H⟩ := H
            refine c_getr rfl rfl rfl g18 ?_
            obtain ⟨g19, H⟩ := H
            refine c_virt (p := (fR s16 a0 1)) (as := []) (r := []) rfl rfl rfl rfl rfl rfl g19 (wc_mono H (Nat.le_refl _) ?_)
            rintro _ s20 ⟨rfl, H⟩
            show wk iv L h0 (d + 1) 18 81 [lr a0, li a1, lr r4, lr (fR s3 (fR s3 a0 1) 2)] [] s20 (qi F)
            refine w_aload_n rfl rfl ?_
            obtain ⟨g21, H⟩ := H
            refine c_getr rfl rfl rfl g21 ?_
            refine w_iconst (n := 0) rfl rfl ?_
            refine w_bipush (n := (-9)) rfl rfl rfl ?_
            refine w_bipush (n := (-9)) rfl rfl rfl ?_
            obtain ⟨g22, H⟩ := H
            refine c_virt (p := (fR s20 a0 1)) (as := [vi 0, vi (-9), vi (-9)]) (r := []) rfl rfl rfl rfl rfl rfl g22 (wc_mono H (Nat.le_refl _) ?_)
            rintro _ s23 ⟨r24, rfl, H⟩
            show wk iv L h0 (d + 1) 18 93 [lr a0, li a1, lr r4, lr (fR s3 (fR s3 a0 1) 2)] [vr r24] s23 (qi F)
            refine w_astore rfl rfl ?_
            refine w_aload_n rfl rfl ?_
            obtain ⟨g25, H⟩ := H
            refine c_getr rfl rfl rfl g25 ?_
            refine w_aload_n rfl rfl ?_
            refine w_aload rfl rfl ?_
            obtain ⟨g26, H⟩ := H
            refine c_virt (p := (fR s23 a0 1)) (as := [vr (fR s3 (fR s3 a0 1) 2), vr r24]) (r := []) rfl rfl rfl rfl rfl rfl g26 (wc_mono H (Nat.le_refl _) ?_)
            rintro _ s27 ⟨rfl, H⟩
            show wk iv L h0 (d + 1) 18 105 [lr a0, li a1, lr r4, lr (fR s3 (fR s3 a0 1) 2), lr r24] [] s27 (qi F)
            refine w_aload_n rfl rfl ?_
            obtain ⟨g28, H⟩ := H
            refine c_getr rfl rfl rfl g28 ?_
            refine w_aload_n rfl rfl ?_
            refine w_aload_n rfl rfl ?_
            obtain ⟨g29, H⟩ := H
            refine c_virt (p := (fR s27 a0 1)) (as := [vr r4, vr (fR s3 (fR s3 a0 1) 2)]) (r := []) rfl rfl rfl rfl rfl rfl g29 (wc_mono H (Nat.le_refl _) ?_)
            rintro _ s30 ⟨rfl, H⟩
            show wk iv L h0 (d + 1) 18 114 [lr a0, li a1, lr r4, lr (fR s3 (fR s3 a0 1) 2), lr r24] [] s30 (qi F)
            refine w_aload_n rfl rfl ?_
            obtain ⟨g31, H⟩ := H
            refine c_virt (p := a0) (as := []) (r := []) rfl rfl rfl rfl rfl rfl g31 (wc_mono H (Nat.le_refl _) ?_)
            rintro _ s32 ⟨rfl, H⟩
            show wk iv L h0 (d + 1) 18 118 [lr a0, li a1, lr r4, lr (fR s3 (fR s3 a0 1) 2), lr r24] [] s32 (qi F)
            refine w_aload rfl rfl ?_
            obtain ⟨g33, H⟩ := H
            refine c_get rfl rfl rfl g33 ?_
            exact w_iret rfl rfl ⟨_, rfl, H⟩
          · replace H := H.2 h
            refine w_bipush (n := (-6)) rfl rfl rfl ?_
            exact w_iret rfl rfl ⟨_, rfl, H⟩
        · replace H := H.2 h
          refine w_bipush (n := (-2)) rfl rfl rfl ?_
          exact w_iret rfl rfl ⟨_, rfl, H⟩
      · replace H := H.2 h
        refine w_bipush (n := (-4)) rfl rfl rfl ?_
        exact w_iret rfl rfl ⟨_, rfl, H⟩
  · replace H := H.2 h
    refine w_iconst (n := (-1)) rfl rfl ?_
    exact w_iret rfl rfl ⟨_, rfl, H⟩
