section
/-! What the methods of the desk come to. Printed by wip/gen2/gens.py. -/
/-- HoleDesk.<init>()V -/
theorem C1 {iv : List (Int × Int)} {L : Nat} {h0 : MH} {d : Nat} {s : SC} {a0 : Nat} {F : SC → Prop} (H : (a0 ≠ 2) ∧ (353 ≤ nxt s) ∧ (nxt s ≠ 2) ∧ ck iv L h0 d 174 [vr (nxt s)] (nO s 3) (qv fun s4 => (kl s4 a0 = 1) ∧ (353 ≤ nxt s4) ∧ (nxt s4 ≠ 2) ∧ ck iv L h0 d 203 [vr (nxt s4)] (nO (uR s4 a0 0 (nxt s)) 7) (qv fun s8 => (kl s8 a0 = 1) ∧ (353 ≤ nxt s8) ∧ (kl (nO s8 2) a0 = 1) ∧ (nxt s8 ≠ 2) ∧ ck iv L h0 d 162 [vr (nxt s8), vr (fR (nO s8 2) a0 0)] (nO (uR s8 a0 1 (nxt s4)) 2) (qv fun s13 => (kl s13 a0 = 1) ∧ (353 ≤ nxt s13) ∧ (nxt s13 ≠ 2) ∧ ck iv L h0 d 226 [vr (nxt s13)] (nO (uR s13 a0 2 (nxt s8)) 10) (qv fun s17 => (kl s17 a0 = 1) ∧ (353 ≤ nxt s17) ∧ (nxt s17 ≠ 2) ∧ ck iv L h0 d 245 [vr (nxt s17)] (nO (uR s17 a0 3 (nxt s13)) 11) (qv fun s21 => (kl s21 a0 = 1) ∧ (353 ≤ nxt s21) ∧ (nxt s21 ≠ 2) ∧ ck iv L h0 d 245 [vr (nxt s21)] (nO (uR s21 a0 4 (nxt s17)) 11) (qv fun s25 => (kl s25 a0 = 1) ∧ (353 ≤ nxt s25) ∧ (kl (nA s25 5 6) a0 = 1) ∧ (353 ≤ nxt s25 + 1) ∧ (kl (nA (nA s25 5 6) 3 16) a0 = 1) ∧ (353 ≤ nxt s25 + 2) ∧ (kl (nA (nA (nA s25 5 6) 3 16) 0 42) a0 = 1) ∧ (353 ≤ nxt s25 + 3) ∧ (kl (nA (nA (nA (nA s25 5 6) 3 16) 0 42) 0 42) a0 = 1) ∧ (353 ≤ nxt s25 + 4) ∧ (kl (nA (nA (nA (nA (nA s25 5 6) 3 16) 0 42) 0 42) 3 8) a0 = 1) ∧ (353 ≤ nxt s25 + 5) ∧ (kl (nA (nA (nA (nA (nA (nA s25 5 6) 3 16) 0 42) 0 42) 3 8) 0 6) a0 = 1) ∧ wk iv L h0 (d + 1) 1 159 [lr a0, li 0] [] (uI (uI (uI (uI (uR (nA (uR (nA (uR (nA (uR (nA (uR (nA (uR (nA (uR s25 a0 5 (nxt s21)) 5 6) a0 6 (nxt s25)) 3 16) a0 7 (nxt s25 + 1)) 0 42) a0 8 (nxt s25 + 2)) 0 42) a0 9 (nxt s25 + 3)) 3 8) a0 10 (nxt s25 + 4)) 0 6) a0 11 (nxt s25 + 5)) a0 12 0) a0 13 0) a0 14 0) a0 15 0) (qv F)))))))) : ck iv L h0 (d + 1) 1 [vr a0] s (qv F) := by
  show wk iv L h0 (d + 1) 1 0 [lr a0] [] s (qv F)
  refine w_aload_n rfl rfl ?_
  obtain ⟨g1, H⟩ := H
  refine c_oinit rfl rfl g1 ?_
  refine w_aload_n rfl rfl ?_
  obtain ⟨g2, H⟩ := H
  refine c_new rfl rfl g2 ?_
  show wk iv L h0 (d + 1) 1 8 [lr a0] [vr (nxt s), vr a0] (nO s 3) (qv F)
  refine w_dup rfl rfl ?_
  obtain ⟨g3, H⟩ := H
  refine c_spec (p := (nxt s)) (as := []) (r := [vr (nxt s), vr a0]) rfl rfl rfl rfl rfl g3 (wc_mono H (Nat.le_refl _) ?_)
  rintro _ s4 ⟨rfl, H⟩
  show wk iv L h0 (d + 1) 1 12 [lr a0] [vr (nxt s), vr a0] s4 (qv F)
  obtain ⟨g5, H⟩ := H
  refine c_putr rfl rfl rfl rfl g5 ?_
  refine w_aload_n rfl rfl ?_
  obtain ⟨g6, H⟩ := H
  refine c_new rfl rfl g6 ?_
  show wk iv L h0 (d + 1) 1 19 [lr a0] [vr (nxt s4), vr a0] (nO (uR s4 a0 0 (nxt s)) 7) (qv F)
  refine w_dup rfl rfl ?_
  obtain ⟨g7, H⟩ := H
  refine c_spec (p := (nxt s4)) (as := []) (r := [vr (nxt s4), vr a0]) rfl rfl rfl rfl rfl g7 (wc_mono H (Nat.le_refl _) ?_)
  rintro _ s8 ⟨rfl, H⟩
  show wk iv L h0 (d + 1) 1 23 [lr a0] [vr (nxt s4), vr a0] s8 (qv F)
  obtain ⟨g9, H⟩ := H
  refine c_putr rfl rfl rfl rfl g9 ?_
  refine w_aload_n rfl rfl ?_
  obtain ⟨g10, H⟩ := H
  refine c_new rfl rfl g10 ?_
  show wk iv L h0 (d + 1) 1 30 [lr a0] [vr (nxt s8), vr a0] (nO (uR s8 a0 1 (nxt s4)) 2) (qv F)
  refine w_dup rfl rfl ?_
  refine w_aload_n rfl rfl ?_
  obtain ⟨g11, H⟩ := H
  refine c_getr rfl rfl rfl g11 ?_
  show wk iv L h0 (d + 1) 1 35 [lr a0] [vr (fR (nO s8 2) a0 0), vr (nxt s8), vr (nxt s8), vr a0] (nO (uR s8 a0 1 (nxt s4)) 2) (qv F)
  obtain ⟨g12, H⟩ := H
  refine c_spec (p := (nxt s8)) (as := [vr (fR (nO s8 2) a0 0)]) (r := [vr (nxt s8), vr a0]) rfl rfl rfl rfl rfl g12 (wc_mono H (Nat.le_refl _) ?_)
  rintro _ s13 ⟨rfl, H⟩
  show wk iv L h0 (d + 1) 1 38 [lr a0] [vr (nxt s8), vr a0] s13 (qv F)
  obtain ⟨g14, H⟩ := H
  refine c_putr rfl rfl rfl rfl g14 ?_
  refine w_aload_n rfl rfl ?_
  obtain ⟨g15, H⟩ := H
  refine c_new rfl rfl g15 ?_
  show wk iv L h0 (d + 1) 1 45 [lr a0] [vr (nxt s13), vr a0] (nO (uR s13 a0 2 (nxt s8)) 10) (qv F)
  refine w_dup rfl rfl ?_
  obtain ⟨g16, H⟩ := H
  refine c_spec (p := (nxt s13)) (as := []) (r := [vr (nxt s13), vr a0]) rfl rfl rfl rfl rfl g16 (wc_mono H (Nat.le_refl _) ?_)
  rintro _ s17 ⟨rfl, H⟩
  show wk iv L h0 (d + 1) 1 49 [lr a0] [vr (nxt s13), vr a0] s17 (qv F)
  obtain ⟨g18, H⟩ := H
  refine c_putr rfl rfl rfl rfl g18 ?_
  refine w_aload_n rfl rfl ?_
  obtain ⟨g19, H⟩ := H
  refine c_new rfl rfl g19 ?_
  show wk iv L h0 (d + 1) 1 56 [lr a0] [vr (nxt s17), vr a0] (nO (uR s17 a0 3 (nxt s13)) 11) (qv F)
  refine w_dup rfl rfl ?_
  obtain ⟨g20, H⟩ := H
  refine c_spec (p := (nxt s17)) (as := []) (r := [vr (nxt s17), vr a0]) rfl rfl rfl rfl rfl g20 (wc_mono H (Nat.le_refl _) ?_)
  rintro _ s21 ⟨rfl, H⟩
  show wk iv L h0 (d + 1) 1 60 [lr a0] [vr (nxt s17), vr a0] s21 (qv F)
  obtain ⟨g22, H⟩ := H
  refine c_putr rfl rfl rfl rfl g22 ?_
  refine w_aload_n rfl rfl ?_
  obtain ⟨g23, H⟩ := H
  refine c_new rfl rfl g23 ?_
  show wk iv L h0 (d + 1) 1 67 [lr a0] [vr (nxt s21), vr a0] (nO (uR s21 a0 4 (nxt s17)) 11) (qv F)
  refine w_dup rfl rfl ?_
  obtain ⟨g24, H⟩ := H
  refine c_spec (p := (nxt s21)) (as := []) (r := [vr (nxt s21), vr a0]) rfl rfl rfl rfl rfl g24 (wc_mono H (Nat.le_refl _) ?_)
  rintro _ s25 ⟨rfl, H⟩
  show wk iv L h0 (d + 1) 1 71 [lr a0] [vr (nxt s21), vr a0] s25 (qv F)
  obtain ⟨g26, H⟩ := H
  refine c_putr rfl rfl rfl rfl g26 ?_
  refine w_aload_n rfl rfl ?_
  refine w_bipush (n := 6) rfl rfl rfl ?_
  obtain ⟨g27, H⟩ := H
  refine c_anewa rfl rfl ⟨by decide, by decide⟩ g27 ?_
  show wk iv L h0 (d + 1) 1 80 [lr a0] [vr (nxt s25), vr a0] (nA (uR s25 a0 5 (nxt s21)) 5 6) (qv F)
  obtain ⟨g28, H⟩ := H
  refine c_putr rfl rfl rfl rfl g28 ?_
  refine w_aload_n rfl rfl ?_
  refine w_getst rfl (by decide) ?_
  refine w_plen rfl ?_
  obtain ⟨g29, H⟩ := H
  refine c_anewa rfl rfl ⟨by decide, by decide⟩ g29 ?_
  show wk iv L h0 (d + 1) 1 91 [lr a0] [vr (nxt s25 + 1), vr a0] (nA (uR (nA (uR s25 a0 5 (nxt s21)) 5 6) a0 6 (nxt s25)) 3 16) (qv F)
  obtain ⟨g30, H⟩ := H
  refine c_putr rfl rfl rfl rfl g30 ?_
  refine w_aload_n rfl rfl ?_
  refine w_bipush (n := 26) rfl rfl rfl ?_
  refine w_getst rfl (by decide) ?_
  refine w_plen rfl ?_
  refine w_iadd rfl (rngB_ok rfl) ?_
  show wk iv L h0 (d + 1) 1 102 [lr a0] [vi 42, vr a0] (uR (nA (uR (nA (uR s25 a0 5 (nxt s21)) 5 6) a0 6 (nxt s25)) 3 16) a0 7 (nxt s25 + 1)) (qv F)
  obtain ⟨g31, H⟩ := H
  refine c_newa rfl rfl ⟨by decide, by decide⟩ g31 ?_
  show wk iv L h0 (d + 1) 1 104 [lr a0] [vr (nxt s25 + 2), vr a0] (nA (uR (nA (uR (nA (uR s25 a0 5 (nxt s21)) 5 6) a0 6 (nxt s25)) 3 16) a0 7 (nxt s25 + 1)) 0 42) (qv F)
  obtain ⟨g32, H⟩ := H
  refine c_putr rfl rfl rfl rfl g32 ?_
  refine w_aload_n rfl rfl ?_
  refine w_bipush (n := 26) rfl rfl rfl ?_
  refine w_getst rfl (by decide) ?_
  refine w_plen rfl ?_
  refine w_iadd rfl (rngB_ok rfl) ?_
  show wk iv L h0 (d + 1) 1 115 [lr a0] [vi 42, vr a0] (uR (nA (uR (nA (uR (nA (uR s25 a0 5 (nxt s21)) 5 6) a0 6 (nxt s25)) 3 16) a0 7 (nxt s25 + 1)) 0 42) a0 8 (nxt s25 + 2)) (qv F)
  obtain ⟨g33, H⟩ := H
  refine c_newa rfl rfl ⟨by decide, by decide⟩ g33 ?_
  show wk iv L h0 (d + 1) 1 117 [lr a0] [vr (nxt s25 + 3), vr a0] (nA (uR (nA (uR (nA (uR (nA (uR s25 a0 5 (nxt s21)) 5 6) a0 6 (nxt s25)) 3 16) a0 7 (nxt s25 + 1)) 0 42) a0 8 (nxt s25 + 2)) 0 42) (qv F)
  obtain ⟨g34, H⟩ := H
  refine c_putr rfl rfl rfl rfl g34 ?_
  refine w_aload_n rfl rfl ?_
  refine w_bipush (n := 8) rfl rfl rfl ?_
  obtain ⟨g35, H⟩ := H
  refine c_anewa rfl rfl ⟨by decide, by decide⟩ g35 ?_
  show wk iv L h0 (d + 1) 1 126 [lr a0] [vr (nxt s25 + 4), vr a0] (nA (uR (nA (uR (nA (uR (nA (uR (nA (uR s25 a0 5 (nxt s21)) 5 6) a0 6 (nxt s25)) 3 16) a0 7 (nxt s25 + 1)) 0 42) a0 8 (nxt s25 + 2)) 0 42) a0 9 (nxt s25 + 3)) 3 8) (qv F)
  obtain ⟨g36, H⟩ := H
  refine c_putr rfl rfl rfl rfl g36 ?_
  refine w_aload_n rfl rfl ?_
  refine w_bipush (n := 6) rfl rfl rfl ?_
  obtain ⟨g37, H⟩ := H
  refine c_newa rfl rfl ⟨by decide, by decide⟩ g37 ?_
  show wk iv L h0 (d + 1) 1 134 [lr a0] [vr (nxt s25 + 5), vr a0] (nA (uR (nA (uR (nA (uR (nA (uR (nA (uR (nA (uR s25 a0 5 (nxt s21)) 5 6) a0 6 (nxt s25)) 3 16) a0 7 (nxt s25 + 1)) 0 42) a0 8 (nxt s25 + 2)) 0 42) a0 9 (nxt s25 + 3)) 3 8) a0 10 (nxt s25 + 4)) 0 6) (qv F)
  obtain ⟨g38, H⟩ := H
  refine c_putr rfl rfl rfl rfl g38 ?_
  refine w_aload_n rfl rfl ?_
  refine w_iconst (n := 0) rfl rfl ?_
  refine c_put rfl rfl rfl rfl g38 ?_
  refine w_aload_n rfl rfl ?_
  refine w_iconst (n := 0) rfl rfl ?_
  refine c_put rfl rfl rfl rfl g38 ?_
  refine w_aload_n rfl rfl ?_
  refine w_iconst (n := 0) rfl rfl ?_
  refine c_put rfl rfl rfl rfl g38 ?_
  refine w_aload_n rfl rfl ?_
  refine w_iconst (n := 0) rfl rfl ?_
  refine c_putz rfl rfl rfl rfl (by decide) g38 ?_
  refine w_iconst (n := 0) rfl rfl ?_
  refine w_istore_n rfl rfl ?_
  exact wp_ls (sl_s (sl_s (sl_0))) H

/-- HoleDesk.<init>()V at 159 -/
theorem C1_159 {iv : List (Int × Int)} {L : Nat} {h0 : MH} {d : Nat} {s : SC} {l0 : Nat} {l1 : Int} {F : SC → Prop} (H : ((6 ≤ l1 → wk iv L h0 (d + 1) 1 186 [lr l0, li 1] [] s (qv F)) ∧ (l1 < 6 → (kl s l0 = 1) ∧ (353 ≤ nxt s) ∧ (nxt s ≠ 2) ∧ ck iv L h0 d 159 [vr (nxt s)] (nO s 1) (qv fun s4 => (kl s4 (fR s l0 6) = 105) ∧ (0 ≤ l1 ∧ l1 < le s4 (fR s l0 6)) ∧ (nxt s = 2 ∨ kl s4 (nxt s) = 2) ∧ (-2147483648 ≤ l1 + 1 ∧ l1 + 1 ≤ 2147483647) ∧ wk iv L h0 (d + 1) 1 159 [lr l0, li (l1 + 1)] [] (uB s4 (fR s l0 6) l1 (nxt s)) (qv F))))) : wk iv L h0 (d + 1) 1 159 [lr l0, li l1] [] s (qv F) := by
  refine w_iload_n rfl rfl ?_
  refine w_bipush (n := 6) rfl rfl rfl ?_
  refine w_icmp_ge rfl (fun h => ?_) (fun h => ?_)
  · replace H := H.1 h
    refine w_iconst (n := 1) rfl rfl ?_
    refine w_istore_n rfl rfl ?_
    exact wp_ls (sl_s (sl_s (sl_0))) H
  · replace H := H.2 h
    refine w_aload_n rfl rfl ?_
    obtain ⟨g1, H⟩ := H
    refine c_getr rfl rfl rfl g1 ?_
    refine w_iload_n rfl rfl ?_
    obtain ⟨g2, H⟩ := H
    refine c_new rfl rfl g2 ?_
    show wk iv L h0 (d + 1) 1 173 [lr l0, li l1] [vr (nxt s), vi l1, vr (fR s l0 6)] (nO s 1) (qv F)
    refine w_dup rfl rfl ?_
    obtain ⟨g3, H⟩ := H
    refine c_spec (p := (nxt s)) (as := []) (r := [vr (nxt s), vi l1, vr (fR s l0 6)]) rfl rfl rfl rfl rfl g3 (wc_mono H (Nat.le_refl _) ?_)
    rintro _ s4 ⟨rfl, H⟩
    show wk iv L h0 (d + 1) 1 177 [lr l0, li l1] [vr (nxt s), vi l1, vr (fR s l0 6)] s4 (qv F)
    obtain ⟨g5, H⟩ := H
    obtain ⟨g6, H⟩ := H
    obtain ⟨g7, H⟩ := H
    refine c_aast rfl rfl g5 g6 (by rcases g7 with e | e; exact Or.inl e; exact Or.inr ⟨e, by decide⟩) ?_
    obtain ⟨g8, H⟩ := H
    refine w_iinc rfl rfl rfl g8 ?_
    refine w_goto rfl ?_
    exact wp_ls (sl_s (sl_s (sl_0))) H

/-- HoleDesk.<init>()V at 186 -/
theorem C1_186 {iv : List (Int × Int)} {L : Nat} {h0 : MH} {d : Nat} {s : SC} {l0 : Nat} {l1 : Int} {F : SC → Prop} (H : (kl s l0 = 1) ∧ (100 ≤ kl s (fR s l0 7) ∧ kl s (fR s l0 7) < 108) ∧ ((le s (fR s l0 7) ≤ l1 → (kl s (fR s l0 1) = 8) ∧ (kl s (fR s l0 2) = 3) ∧ ck iv L h0 d 163 [vr (fR s l0 2), vr (fR s (fR s l0 1) 1)] s (qv fun s5 => F s5)) ∧ (l1 < le s (fR s l0 7) → ck iv L h0 d 55 [vi l1] s (qa fun r7 s6 => (kl s6 (fR s l0 7) = 103) ∧ (0 ≤ l1 ∧ l1 < le s6 (fR s l0 7)) ∧ (r7 = 2 ∨ kl s6 r7 = 5) ∧ (-2147483648 ≤ l1 + 1 ∧ l1 + 1 ≤ 2147483647) ∧ wk iv L h0 (d + 1) 1 186 [lr l0, li (l1 + 1)] [] (uB s6 (fR s l0 7) l1 r7) (qv F))))) : wk iv L h0 (d + 1) 1 186 [lr l0, li l1] [] s (qv F) := by
  refine w_iload_n rfl rfl ?_
  refine w_aload_n rfl rfl ?_
  obtain ⟨g1, H⟩ := H
  refine c_getr rfl rfl rfl g1 ?_
  obtain ⟨g2, H⟩ := H
  refine c_len rfl g2 ?_
  refine w_icmp_ge rfl (fun h => ?_) (fun h => ?_)
  · replace H := H.1 h
    refine w_aload_n rfl rfl ?_
    refine c_getr rfl rfl rfl g1 ?_
    refine w_aload_n rfl rfl ?_
    refine c_getr rfl rfl rfl g1 ?_
    obtain ⟨g3, H⟩ := H
    refine c_getr rfl rfl rfl g3 ?_
    obtain ⟨g4, H⟩ := H
    refine c_virt (p := (fR s l0 2)) (as := [vr (fR s (fR s l0 1) 1)]) (r := []) rfl rfl rfl rfl rfl rfl g4 (wc_mono H (Nat.le_refl _) ?_)
    rintro _ s5 ⟨rfl, H⟩
    show wk iv L h0 (d + 1) 1 225 [lr l0, li l1] [] s5 (qv F)
    exact w_ret rfl rfl ⟨rfl, H⟩
  · replace H := H.2 h
    refine w_aload_n rfl rfl ?_
    refine c_getr rfl rfl rfl g1 ?_
    refine w_iload_n rfl rfl ?_
    refine w_iload_n rfl rfl ?_
    refine w_static (as := [vi l1]) (r := [vi l1, vr (fR s l0 7)]) rfl rfl rfl rfl rfl (wc_mono H (Nat.le_refl _) ?_)
    rintro _ s6 ⟨r7, rfl, H⟩
    show wk iv L h0 (d + 1) 1 204 [lr l0, li l1] [vr r7, vi l1, vr (fR s l0 7)] s6 (qv F)
    obtain ⟨g8, H⟩ := H
    obtain ⟨g9, H⟩ := H
    obtain ⟨g10, H⟩ := H
    refine c_aast rfl rfl g8 g9 (by rcases g10 with e | e; exact Or.inl e; exact Or.inr ⟨e, by decide⟩) ?_
    obtain ⟨g11, H⟩ := H
    refine w_iinc rfl rfl rfl g11 ?_
    refine w_goto rfl ?_
    exact wp_ls (sl_s (sl_s (sl_0))) H

/-- HoleDesk.kind(ZII)I -/
theorem C2 {iv : List (Int × Int)} {L : Nat} {h0 : MH} {d : Nat} {s : SC} {a0 : Nat} {a1 : Int} {a2 : Int} {a3 : Int} {F : Int → SC → Prop} (H : ((a1 = 0 → (kl s a0 = 1) ∧ (kl s (fR s a0 0) = 4) ∧ ck iv L h0 d 176 [vr (fR s a0 0), vi a2] s (qi fun r4 s3 => ((r4 = 0 → F (-1) s3) ∧ (r4 ≠ 0 → (kl s3 a0 = 1) ∧ (kl s3 (fR s3 a0 0) = 4) ∧ ck iv L h0 d 176 [vr (fR s3 a0 0), vi a3] s3 (qi fun r8 s7 => ((r8 = 0 → F (-1) s7) ∧ (r8 ≠ 0 → (kl s7 a0 = 1) ∧ (kl s7 (fR s7 a0 0) = 4) ∧ ck iv L h0 d 177 [vr (fR s7 a0 0), vi a2, vi a3] s7 (qi fun r12 s11 => ((r12 ≤ 40 → (kl s11 a0 = 1) ∧ (kl s11 (fR s11 a0 0) = 4) ∧ ck iv L h0 d 178 [vr (fR s11 a0 0), vi 3, vi a2, vi a3] s11 (qi fun r16 s15 => ((r16 < 0 → (kl s15 a0 = 1) ∧ (kl s15 (fR s15 a0 0) = 4) ∧ ((fI s15 (fR s15 a0 0) 4 < 40 → ck iv L h0 d 179 [vr (fR s15 a0 0), vi 3, vi a2, vi a3] s15 (qi fun r20 s19 => F r20 s19)) ∧ (40 ≤ fI s15 (fR s15 a0 0) 4 → F (-2) s15))) ∧ (0 ≤ r16 → F r16 s15)))) ∧ (40 < r12 → F (-1) s11)))))))))) ∧ (a1 ≠ 0 → (kl s a0 = 1) ∧ (kl s (fR s a0 0) = 4) ∧ ck iv L h0 d 176 [vr (fR s a0 0), vi a2] s (qi fun r24 s23 => ((r24 = 0 → F (-1) s23) ∧ (r24 ≠ 0 → (kl s23 a0 = 1) ∧ (kl s23 (fR s23 a0 0) = 4) ∧ ck iv L h0 d 176 [vr (fR s23 a0 0), vi a3] s23 (qi fun r28 s27 => ((r28 = 0 → F (-1) s27) ∧ (r28 ≠ 0 → (kl s27 a0 = 1) ∧ (kl s27 (fR s27 a0 0) = 4) ∧ ck iv L h0 d 177 [vr (fR s27 a0 0), vi a2, vi a3] s27 (qi fun r32 s31 => ((r32 ≤ 40 → (kl s31 a0 = 1) ∧ (kl s31 (fR s31 a0 0) = 4) ∧ ck iv L h0 d 178 [vr (fR s31 a0 0), vi 4, vi a2, vi a3] s31 (qi fun r36 s35 => ((r36 < 0 → (kl s35 a0 = 1) ∧ (kl s35 (fR s35 a0 0) = 4) ∧ ((fI s35 (fR s35 a0 0) 4 < 40 → ck iv L h0 d 179 [vr (fR s35 a0 0), vi 4, vi a2, vi a3] s35 (qi fun r40 s39 => F r40 s39)) ∧ (40 ≤ fI s35 (fR s35 a0 0) 4 → F (-2) s35))) ∧ (0 ≤ r36 → F r36 s35)))) ∧ (40 < r32 → F (-1) s31)))))))))))) : ck iv L h0 (d + 1) 2 [vr a0, vi a1, vi a2, vi a3] s (qi F) := by
  show wk iv L h0 (d + 1) 2 0 [lr a0, li a1, li a2, li a3] [] s (qi F)
  refine w_iload_n rfl rfl ?_
  refine w_if_eq rfl (fun h => ?_) (fun h => ?_)
  · replace H := H.1 h
    refine w_iconst (n := 3) rfl rfl ?_
    refine w_istore rfl rfl ?_
    refine w_aload_n rfl rfl ?_
    obtain ⟨g1, H⟩ := H
    refine c_getr rfl rfl rfl g1 ?_
    refine w_iload_n rfl rfl ?_
    obtain ⟨g2, H⟩ := H
    refine c_virt (p := (fR s a0 0)) (as := [vi a2]) (r := []) rfl rfl rfl rfl rfl rfl g2 (wc_mono H (Nat.le_refl _) ?_)
    rintro _ s3 ⟨r4, rfl, H⟩
    show wk iv L h0 (d + 1) 2 19 [lr a0, li a1, li a2, li a3, li 3] [vi r4] s3 (qi F)
    refine w_if_eq rfl (fun h => ?_) (fun h => ?_)
    · replace H := H.1 h
      refine w_iconst (n := (-1)) rfl rfl ?_
      exact w_iret rfl rfl ⟨_, rfl, H⟩
    · replace H := H.2 h
      refine w_aload_n rfl rfl ?_
      obtain ⟨g5, H⟩ := H
      refine c_getr rfl rfl rfl g5 ?_
      refine w_iload_n rfl rfl ?_
      obtain ⟨g6, H⟩ := H
      refine c_virt (p := (fR s3 a0 0)) (as := [vi a3]) (r := []) rfl rfl rfl rfl rfl rfl g6 (wc_mono H (Nat.le_refl _) ?_)
      rintro _ s7 ⟨r8, rfl, H⟩
      show wk iv L h0 (d + 1) 2 30 [lr a0, li a1, li a2, li a3, li 3] [vi r8] s7 (qi F)
      refine w_if_eq rfl (fun h => ?_) (fun h => ?_)
      · replace H := H.1 h
        refine w_iconst (n := (-1)) rfl rfl ?_
        exact w_iret rfl rfl ⟨_, rfl, H⟩
      · replace H := H.2 h
        refine w_aload_n rfl rfl ?_
        obtain ⟨g9, H⟩ := H
        refine c_getr rfl rfl rfl g9 ?_
        refine w_iload_n rfl rfl ?_
        refine w_iload_n rfl rfl ?_
        obtain ⟨g10, H⟩ := H
        refine c_virt (p := (fR s7 a0 0)) (as := [vi a2, vi a3]) (r := []) rfl rfl rfl rfl rfl rfl g10 (wc_mono H (Nat.le_refl _) ?_)
        rintro _ s11 ⟨r12, rfl, H⟩
        show wk iv L h0 (d + 1) 2 42 [lr a0, li a1, li a2, li a3, li 3] [vi r12] s11 (qi F)
        refine w_bipush (n := 40) rfl rfl rfl ?_
        refine w_icmp_le rfl (fun h => ?_) (fun h => ?_)
        · replace H := H.1 h
          refine w_aload_n rfl rfl ?_
          obtain ⟨g13, H⟩ := H
          refine c_getr rfl rfl rfl g13 ?_
          refine w_iload rfl rfl ?_
          refine w_iload_n rfl rfl ?_
          refine w_iload_n rfl rfl ?_
          obtain ⟨g14, H⟩ := H
          refine c_virt (p := (fR s11 a0 0)) (as := [vi 3, vi a2, vi a3]) (r := []) rfl rfl rfl rfl rfl rfl g14 (wc_mono H (Nat.le_refl _) ?_)
          rintro _ s15 ⟨r16, rfl, H⟩
          show wk iv L h0 (d + 1) 2 60 [lr a0, li a1, li a2, li a3, li 3] [vi r16] s15 (qi F)
          refine w_istore rfl rfl ?_
          refine w_iload rfl rfl ?_
          refine w_if_lt rfl (fun h => ?_) (fun h => ?_)
          · replace H := H.1 h
            refine w_aload_n rfl rfl ?_
            obtain ⟨g17, H⟩ := H
            refine c_getr rfl rfl rfl g17 ?_
            obtain ⟨g18, H⟩ := H
            refine c_get rfl rfl rfl g18 ?_
            refine w_bipush (n := 40) rfl rfl rfl ?_
            refine w_icmp_lt rfl (fun h => ?_) (fun h => ?_)
            · replace H := H.1 h
              refine w_aload_n rfl rfl ?_
              refine c_getr rfl rfl rfl g17 ?_
              refine w_iload rfl rfl ?_
              refine w_iload_n rfl rfl ?_
              refine w_iload_n rfl rfl ?_
              refine c_virt (p := (fR s15 a0 0)) (as := [vi 3, vi a2, vi a3]) (r := []) rfl rfl rfl rfl rfl rfl g18 (wc_mono H (Nat.le_refl _) ?_)
              rintro _ s19 ⟨r20, rfl, H⟩
              show wk iv L h0 (d + 1) 2 98 [lr a0, li a1, li a2, li a3, li 3, li r16] [vi r20] s19 (qi F)
              exact w_iret rfl rfl ⟨_, rfl, H⟩
            · replace H := H.2 h
              refine w_bipush (n := (-2)) rfl rfl rfl ?_
              refine w_goto rfl ?_
              exact w_iret rfl rfl ⟨_, rfl, H⟩
          · replace H := H.2 h
            refine w_iload rfl rfl ?_
            exact w_iret rfl rfl ⟨_, rfl, H⟩
        · replace H := H.2 h
          refine w_iconst (n := (-1)) rfl rfl ?_
          exact w_iret rfl rfl ⟨_, rfl, H⟩
  · replace H := H.2 h
    refine w_iconst (n := 4) rfl rfl ?_
    refine w_goto rfl ?_
    refine w_istore rfl rfl ?_
    refine w_aload_n rfl rfl ?_
    obtain ⟨g21, H⟩ := H
    refine c_getr rfl rfl rfl g21 ?_
    refine w_iload_n rfl rfl ?_
    obtain ⟨g22, H⟩ := H
    refine c_virt (p := (fR s a0 0)) (as := [vi a2]) (r := []) rfl rfl rfl rfl rfl rfl g22 (wc_mono H (Nat.le_refl _) ?_)
    rintro _ s23 ⟨r24, rfl, H⟩
    show wk iv L h0 (d + 1) 2 19 [lr a0, li a1, li a2, li a3, li 4] [vi r24] s23 (qi F)
    refine w_if_eq rfl (fun h => ?_) (fun h => ?_)
    · replace H := H.1 h
      refine w_iconst (n := (-1)) rfl rfl ?_
      exact w_iret rfl rfl ⟨_, rfl, H⟩
    · replace H := H.2 h
      refine w_aload_n rfl rfl ?_
      obtain ⟨g25, H⟩ := H
      refine c_getr rfl rfl rfl g25 ?_
      refine w_iload_n rfl rfl ?_
      obtain ⟨g26, H⟩ := H
      refine c_virt (p := (fR s23 a0 0)) (as := [vi a3]) (r := []) rfl rfl rfl rfl rfl rfl g26 (wc_mono H (Nat.le_refl _) ?_)
      rintro _ s27 ⟨r28, rfl, H⟩
      show wk iv L h0 (d + 1) 2 30 [lr a0, li a1, li a2, li a3, li 4] [vi r28] s27 (qi F)
      refine w_if_eq rfl (fun h => ?_) (fun h => ?_)
      · replace H := H.1 h
        refine w_iconst (n := (-1)) rfl rfl ?_
        exact w_iret rfl rfl ⟨_, rfl, H⟩
      · replace H := H.2 h
        refine w_aload_n rfl rfl ?_
        obtain ⟨g29, H⟩ := H
        refine c_getr rfl rfl rfl g29 ?_
        refine w_iload_n rfl rfl ?_
        refine w_iload_n rfl rfl ?_
        obtain ⟨g30, H⟩ := H
        refine c_virt (p := (fR s27 a0 0)) (as := [vi a2, vi a3]) (r := []) rfl rfl rfl rfl rfl rfl g30 (wc_mono H (Nat.le_refl _) ?_)
        rintro _ s31 ⟨r32, rfl, H⟩
        show wk iv L h0 (d + 1) 2 42 [lr a0, li a1, li a2, li a3, li 4] [vi r32] s31 (qi F)
        refine w_bipush (n := 40) rfl rfl rfl ?_
        refine w_icmp_le rfl (fun h => ?_) (fun h => ?_)
        · replace H := H.1 h
          refine w_aload_n rfl rfl ?_
          obtain ⟨g33, H⟩ := H
          refine c_getr rfl rfl rfl g33 ?_
          refine w_iload rfl rfl ?_
          refine w_iload_n rfl rfl ?_
          refine w_iload_n rfl rfl ?_
          obtain ⟨g34, H⟩ := H
          refine c_virt (p := (fR s31 a0 0)) (as := [vi 4, vi a2, vi a3]) (r := []) rfl rfl rfl rfl rfl rfl g34 (wc_mono H (Nat.le_refl _) ?_)
          rintro _ s35 ⟨r36, rfl, H⟩
          show wk iv L h0 (d + 1) 2 60 [lr a0, li a1, li a2, li a3, li 4] [vi r36] s35 (qi F)
          refine w_istore rfl rfl ?_
          refine w_iload rfl rfl ?_
          refine w_if_lt rfl (fun h => ?_) (fun h => ?_)
          · replace H := H.1 h
            refine w_aload_n rfl rfl ?_
            obtain ⟨g37, H⟩ := H
            refine c_getr rfl rfl rfl g37 ?_
            obtain ⟨g38, H⟩ := H
            refine c_get rfl rfl rfl g38 ?_
            refine w_bipush (n := 40) rfl rfl rfl ?_
            refine w_icmp_lt rfl (fun h => ?_) (fun h => ?_)
            · replace H := H.1 h
              refine w_aload_n rfl rfl ?_
              refine c_getr rfl rfl rfl g37 ?_
              refine w_iload rfl rfl ?_
              refine w_iload_n rfl rfl ?_
              refine w_iload_n rfl rfl ?_
              refine c_virt (p := (fR s35 a0 0)) (as := [vi 4, vi a2, vi a3]) (r := []) rfl rfl rfl rfl rfl rfl g38 (wc_mono H (Nat.le_refl _) ?_)
              rintro _ s39 ⟨r40, rfl, H⟩
              show wk iv L h0 (d + 1) 2 98 [lr a0, li a1, li a2, li a3, li 4, li r36] [vi r40] s39 (qi F)
              exact w_iret rfl rfl ⟨_, rfl, H⟩
            · replace H := H.2 h
              refine w_bipush (n := (-2)) rfl rfl rfl ?_
              refine w_goto rfl ?_
              exact w_iret rfl rfl ⟨_, rfl, H⟩
          · replace H := H.2 h
            refine w_iload rfl rfl ?_
            exact w_iret rfl rfl ⟨_, rfl, H⟩
        · replace H := H.2 h
          refine w_iconst (n := (-1)) rfl rfl ?_
          exact w_iret rfl rfl ⟨_, rfl, H⟩

/-- HoleDesk.kindOf(II)I -/
theorem C3 {iv : List (Int × Int)} {L : Nat} {h0 : MH} {d : Nat} {s : SC} {a0 : Nat} {a1 : Int} {a2 : Int} {F : Int → SC → Prop} (H : (kl s a0 = 1) ∧ (kl s (fR s a0 0) = 4) ∧ ck iv L h0 d 176 [vr (fR s a0 0), vi a1] s (qi fun r4 s3 => ((r4 ≠ 0 → ((a2 = 0 → (kl s3 a0 = 1) ∧ (kl s3 (fR s3 a0 0) = 4) ∧ (kl s3 (fR s3 (fR s3 a0 0) 0) = 100) ∧ (0 ≤ a1 ∧ a1 < le s3 (fR s3 (fR s3 a0 0) 0)) ∧ F (aI s3 (fR s3 (fR s3 a0 0) 0) a1) s3) ∧ (a2 = 1 → (kl s3 a0 = 1) ∧ (kl s3 (fR s3 a0 0) = 4) ∧ (kl s3 (fR s3 (fR s3 a0 0) 1) = 100) ∧ (0 ≤ a1 ∧ a1 < le s3 (fR s3 (fR s3 a0 0) 1)) ∧ F (aI s3 (fR s3 (fR s3 a0 0) 1) a1) s3) ∧ (a2 = 2 → (kl s3 a0 = 1) ∧ (kl s3 (fR s3 a0 0) = 4) ∧ (kl s3 (fR s3 (fR s3 a0 0) 2) = 100) ∧ (0 ≤ a1 ∧ a1 < le s3 (fR s3 (fR s3 a0 0) 2)) ∧ F (aI s3 (fR s3 (fR s3 a0 0) 2) a1) s3) ∧ (a2 = 3 → (kl s3 a0 = 1) ∧ (kl s3 (fR s3 a0 0) = 4) ∧ (kl s3 (fR s3 (fR s3 a0 0) 3) = 100) ∧ (0 ≤ a1 ∧ a1 < le s3 (fR s3 (fR s3 a0 0) 3)) ∧ F (aI s3 (fR s3 (fR s3 a0 0) 3) a1) s3) ∧ (a2 < 0 ∨ 3 < a2 → F (-1) s3))) ∧ (r4 = 0 → F (-1) s3)))) : ck iv L h0 (d + 1) 3 [vr a0, vi a1, vi a2] s (qi F) := by
  show wk iv L h0 (d + 1) 3 0 [lr a0, li a1, li a2] [] s (qi F)
  refine w_aload_n rfl rfl ?_
  obtain ⟨g1, H⟩ := H
  refine c_getr rfl rfl rfl g1 ?_
  refine w_iload_n rfl rfl ?_
  obtain ⟨g2, H⟩ := H
  refine c_virt (p := (fR s a0 0)) (as := [vi a1]) (r := []) rfl rfl rfl rfl rfl rfl g2 (wc_mono H (Nat.le_refl _) ?_)
  rintro _ s3 ⟨r4, rfl, H⟩
  show wk iv L h0 (d + 1) 3 8 [lr a0, li a1, li a2] [vi r4] s3 (qi F)
  refine w_if_ne rfl (fun h => ?_) (fun h => ?_)
  · replace H := H.1 h
    refine w_iload_n rfl rfl ?_
    have J44 : (a2 = 0) → wk iv L h0 (d + 1) 3 44 [lr a0, li a1, li a2] [] s3 (qi F) := fun h => by
      replace H := H.1 h
      refine w_aload_n rfl rfl ?_
      obtain ⟨g5, H⟩ := H
      refine c_getr rfl rfl rfl g5 ?_
      obtain ⟨g6, H⟩ := H
      refine c_getr rfl rfl rfl g6 ?_
      refine w_iload_n rfl rfl ?_
      obtain ⟨g7, H⟩ := H
      obtain ⟨g8, H⟩ := H
      refine c_ald rfl g7 g8 ?_
      exact w_iret rfl rfl ⟨_, rfl, H⟩
    have J54 : (a2 = 1) → wk iv L h0 (d + 1) 3 54 [lr a0, li a1, li a2] [] s3 (qi F) := fun h => by
      replace H := H.2.1 h
      refine w_aload_n rfl rfl ?_
      obtain ⟨g9, H⟩ := H
      refine c_getr rfl rfl rfl g9 ?_
      obtain ⟨g10, H⟩ := H
      refine c_getr rfl rfl rfl g10 ?_
      refine w_iload_n rfl rfl ?_
      obtain ⟨g11, H⟩ := H
      obtain ⟨g12, H⟩ := H
      refine c_ald rfl g11 g12 ?_
      exact w_iret rfl rfl ⟨_, rfl, H⟩
    have J64 : (a2 = 2) → wk iv L h0 (d + 1) 3 64 [lr a0, li a1, li a2] [] s3 (qi F) := fun h => by
      replace H := H.2.2.1 h
      refine w_aload_n rfl rfl ?_
      obtain ⟨g13, H⟩ := H
      refine c_getr rfl rfl rfl g13 ?_
      obtain ⟨g14, H⟩ := H
      refine c_getr rfl rfl rfl g14 ?_
      refine w_iload_n rfl rfl ?_
      obtain ⟨g15, H⟩ := H
      obtain ⟨g16, H⟩ := H
      refine c_ald rfl g15 g16 ?_
      exact w_iret rfl rfl ⟨_, rfl, H⟩
    have J74 : (a2 = 3) → wk iv L h0 (d + 1) 3 74 [lr a0, li a1, li a2] [] s3 (qi F) := fun h => by
      replace H := H.2.2.2.1 h
      refine w_aload_n rfl rfl ?_
      obtain ⟨g17, H⟩ := H
      refine c_getr rfl rfl rfl g17 ?_
      obtain ⟨g18, H⟩ := H
      refine c_getr rfl rfl rfl g18 ?_
      refine w_iload_n rfl rfl ?_
      obtain ⟨g19, H⟩ := H
      obtain ⟨g20, H⟩ := H
      refine c_ald rfl g19 g20 ?_
      exact w_iret rfl rfl ⟨_, rfl, H⟩
    have J84 : (a2 < 0 ∨ 3 < a2) → wk iv L h0 (d + 1) 3 84 [lr a0, li a1, li a2] [] s3 (qi F) := fun h => by
      replace H := H.2.2.2.2 h
      refine w_iconst (n := (-1)) rfl rfl ?_
      exact w_iret rfl rfl ⟨_, rfl, H⟩
    refine w_tsw (td := 84) (ts := [44, 54, 64, 74]) rfl rfl rfl rfl rfl rfl (fun h => J84 (by omega)) ?_
    exact swA_c (fun h => J44 (by omega)) (swA_c (fun h => J54 (by omega)) (swA_c (fun h => J64 (by omega)) (swA_c (fun h => J74 (by omega)) (swA_n))))
  · replace H := H.2 h
    refine w_iconst (n := (-1)) rfl rfl ?_
    exact w_iret rfl rfl ⟨_, rfl, H⟩

/-- HoleDesk.meet(II)I -/
theorem C4 {iv : List (Int × Int)} {L : Nat} {h0 : MH} {d : Nat} {s : SC} {a0 : Nat} {a1 : Int} {a2 : Int} {F : Int → SC → Prop} (H : (kl s a0 = 1) ∧ (kl s (fR s a0 0) = 4) ∧ ck iv L h0 d 176 [vr (fR s a0 0), vi a1] s (qi fun r4 s3 => ((r4 = 0 → F (-1) s3) ∧ (r4 ≠ 0 → (kl s3 a0 = 1) ∧ (kl s3 (fR s3 a0 0) = 4) ∧ ck iv L h0 d 176 [vr (fR s3 a0 0), vi a2] s3 (qi fun r8 s7 => ((r8 ≠ 0 → (kl s7 a0 = 1) ∧ (kl s7 (fR s7 a0 0) = 4) ∧ ck iv L h0 d 182 [vr (fR s7 a0 0), vi a1, vi a2] s7 (qi fun r12 s11 => ((r12 = 0 → F 0 s11) ∧ (r12 ≠ 0 → F 1 s11)))) ∧ (r8 = 0 → F (-1) s7))))))) : ck iv L h0 (d + 1) 4 [vr a0, vi a1, vi a2] s (qi F) := by
  show wk iv L h0 (d + 1) 4 0 [lr a0, li a1, li a2] [] s (qi F)
  refine w_aload_n rfl rfl ?_
  obtain ⟨g1, H⟩ := H
  refine c_getr rfl rfl rfl g1 ?_
  refine w_iload_n rfl rfl ?_
  obtain ⟨g2, H⟩ := H
  refine c_virt (p := (fR s a0 0)) (as := [vi a1]) (r := []) rfl rfl rfl rfl rfl rfl g2 (wc_mono H (Nat.le_refl _) ?_)
  rintro _ s3 ⟨r4, rfl, H⟩
  show wk iv L h0 (d + 1) 4 8 [lr a0, li a1, li a2] [vi r4] s3 (qi F)
  refine w_if_eq rfl (fun h => ?_) (fun h => ?_)
  · replace H := H.1 h
    refine w_iconst (n := (-1)) rfl rfl ?_
    exact w_iret rfl rfl ⟨_, rfl, H⟩
  · replace H := H.2 h
    refine w_aload_n rfl rfl ?_
    obtain ⟨g5, H⟩ := H
    refine c_getr rfl rfl rfl g5 ?_
    refine w_iload_n rfl rfl ?_
    obtain ⟨g6, H⟩ := H
    refine c_virt (p := (fR s3 a0 0)) (as := [vi a2]) (r := []) rfl rfl rfl rfl rfl rfl g6 (wc_mono H (Nat.le_refl _) ?_)
    rintro _ s7 ⟨r8, rfl, H⟩
    show wk iv L h0 (d + 1) 4 19 [lr a0, li a1, li a2] [vi r8] s7 (qi F)
    refine w_if_ne rfl (fun h => ?_) (fun h => ?_)
    · replace H := H.1 h
      refine w_aload_n rfl rfl ?_
      obtain ⟨g9, H⟩ := H
      refine c_getr rfl rfl rfl g9 ?_
      refine w_iload_n rfl rfl ?_
      refine w_iload_n rfl rfl ?_
      obtain ⟨g10, H⟩ := H
      refine c_virt (p := (fR s7 a0 0)) (as := [vi a1, vi a2]) (r := []) rfl rfl rfl rfl rfl rfl g10 (wc_mono H (Nat.le_refl _) ?_)
      rintro _ s11 ⟨r12, rfl, H⟩
      show wk iv L h0 (d + 1) 4 33 [lr a0, li a1, li a2] [vi r12] s11 (qi F)
      refine w_if_eq rfl (fun h => ?_) (fun h => ?_)
      · replace H := H.1 h
        refine w_iconst (n := 0) rfl rfl ?_
        exact w_iret rfl rfl ⟨_, rfl, H⟩
      · replace H := H.2 h
        refine w_iconst (n := 1) rfl rfl ?_
        refine w_goto rfl ?_
        exact w_iret rfl rfl ⟨_, rfl, H⟩
    · replace H := H.2 h
      refine w_iconst (n := (-1)) rfl rfl ?_
      exact w_iret rfl rfl ⟨_, rfl, H⟩

/-- HoleDesk.nodes()I -/
theorem C5 {iv : List (Int × Int)} {L : Nat} {h0 : MH} {d : Nat} {s : SC} {a0 : Nat} {F : Int → SC → Prop} (H : (kl s a0 = 1) ∧ (kl s (fR s a0 1) = 8) ∧ F (fI s (fR s a0 1) 3) s) : ck iv L h0 d 5 [vr a0] s (qi F) := by
  show wk iv L h0 d 5 0 [lr a0] [] s (qi F)
  refine w_aload_n rfl rfl ?_
  obtain ⟨g1, H⟩ := H
  refine c_getr rfl rfl rfl g1 ?_
  obtain ⟨g2, H⟩ := H
  refine c_get rfl rfl rfl g2 ?_
  exact w_iret rfl rfl ⟨_, rfl, H⟩

/-- HoleDesk.cursor()I -/
theorem C6 {iv : List (Int × Int)} {L : Nat} {h0 : MH} {d : Nat} {s : SC} {a0 : Nat} {F : Int → SC → Prop} (H : (kl s a0 = 1) ∧ (kl s (fR s a0 1) = 8) ∧ (kl s (fR s (fR s a0 1) 2) = 5) ∧ F (fI s (fR s (fR s a0 1) 2) 0) s) : ck iv L h0 d 6 [vr a0] s (qi F) := by
  show wk iv L h0 d 6 0 [lr a0] [] s (qi F)
  refine w_aload_n rfl rfl ?_
  obtain ⟨g1, H⟩ := H
  refine c_getr rfl rfl rfl g1 ?_
  obtain ⟨g2, H⟩ := H
  refine c_getr rfl rfl rfl g2 ?_
  obtain ⟨g3, H⟩ := H
  refine c_get rfl rfl rfl g3 ?_
  exact w_iret rfl rfl ⟨_, rfl, H⟩

/-- HoleDesk.told(II)I -/
theorem C7 {iv : List (Int × Int)} {L : Nat} {h0 : MH} {d : Nat} {s : SC} {a0 : Nat} {a1 : Int} {a2 : Int} {F : Int → SC → Prop} (H : (kl s a0 = 1) ∧ (kl s (fR s a0 1) = 8) ∧ ck iv L h0 d 207 [vr (fR s a0 1), vi a1] s (qa fun r4 s3 => ((r4 ≠ 2 → (kl s3 a0 = 1) ∧ ck iv L h0 d 48 [vr a0, vr r4, vi a2] s3 (qi fun r7 s6 => F r7 s6)) ∧ (r4 = 2 → F (-1) s3)))) : ck iv L h0 (d + 1) 7 [vr a0, vi a1, vi a2] s (qi F) := by
  show wk iv L h0 (d + 1) 7 0 [lr a0, li a1, li a2] [] s (qi F)
  refine w_aload_n rfl rfl ?_
  obtain ⟨g1, H⟩ := H
  refine c_getr rfl rfl rfl g1 ?_
  refine w_iload_n rfl rfl ?_
  obtain ⟨g2, H⟩ := H
  refine c_virt (p := (fR s a0 1)) (as := [vi a1]) (r := []) rfl rfl rfl rfl rfl rfl g2 (wc_mono H (Nat.le_refl _) ?_)
  rintro _ s3 ⟨r4, rfl, H⟩
  show wk iv L h0 (d + 1) 7 8 [lr a0, li a1, li a2] [vr r4] s3 (qi F)
  refine w_astore_n rfl rfl ?_
  refine w_aload_n rfl rfl ?_
  refine c_nonnull rfl (fun h => ?_) (fun h => ?_)
  · replace H := H.1 h
    refine w_aload_n rfl rfl ?_
    refine w_aload_n rfl rfl ?_
    refine w_iload_n rfl rfl ?_
    obtain ⟨g5, H⟩ := H
    refine c_virt (p := a0) (as := [vr r4, vi a2]) (r := []) rfl rfl rfl rfl rfl rfl g5 (wc_mono H (Nat.le_refl _) ?_)
    rintro _ s6 ⟨r7, rfl, H⟩
    show wk iv L h0 (d + 1) 7 23 [lr a0, li a1, li a2, lr r4] [vi r7] s6 (qi F)
    exact w_iret rfl rfl ⟨_, rfl, H⟩
  · replace H := H.2 h
    refine w_iconst (n := (-1)) rfl rfl ?_
    refine w_goto rfl ?_
    exact w_iret rfl rfl ⟨_, rfl, H⟩

/-- HoleDesk.part(II)I -/
theorem C8 {iv : List (Int × Int)} {L : Nat} {h0 : MH} {d : Nat} {s : SC} {a0 : Nat} {a1 : Int} {a2 : Int} {F : Int → SC → Prop} (H : (kl s a0 = 1) ∧ (kl s (fR s a0 1) = 8) ∧ ck iv L h0 d 207 [vr (fR s a0 1), vi a1] s (qa fun r4 s3 => ((r4 ≠ 2 → (kl s3 r4 = 5) ∧ ck iv L h0 d 187 [vr r4, vi a2] s3 (qi fun r7 s6 => ((r7 = 0 → (kl s6 a0 = 1) ∧ ck iv L h0 d 47 [vr a0, vi 2] s6 (qi fun r10 s9 => F r10 s9)) ∧ (r7 ≠ 0 → (kl s6 r4 = 5) ∧ (kl s6 (fR s6 r4 3) = 103) ∧ (0 ≤ a2 ∧ a2 < le s6 (fR s6 r4 3)) ∧ (kl s6 (aR s6 (fR s6 r4 3) a2) = 5) ∧ F (fI s6 (aR s6 (fR s6 r4 3) a2) 0) s6)))) ∧ (r4 = 2 → F (-1) s3)))) : ck iv L h0 (d + 1) 8 [vr a0, vi a1, vi a2] s (qi F) := by
  show wk iv L h0 (d + 1) 8 0 [lr a0, li a1, li a2] [] s (qi F)
  refine w_aload_n rfl rfl ?_
  obtain ⟨g1, H⟩ := H
  refine c_getr rfl rfl rfl g1 ?_
  refine w_iload_n rfl rfl ?_
  obtain ⟨g2, H⟩ := H
  refine c_virt (p := (fR s a0 1)) (as := [vi a1]) (r := []) rfl rfl rfl rfl rfl rfl g2 (wc_mono H (Nat.le_refl _) ?_)
  rintro _ s3 ⟨r4, rfl, H⟩
  show wk iv L h0 (d + 1) 8 8 [lr a0, li a1, li a2] [vr r4] s3 (qi F)
  refine w_astore_n rfl rfl ?_
  refine w_aload_n rfl rfl ?_
  refine c_nonnull rfl (fun h => ?_) (fun h => ?_)
  · replace H := H.1 h
    refine w_aload_n rfl rfl ?_
    refine w_iload_n rfl rfl ?_
    obtain ⟨g5, H⟩ := H
    refine c_virt (p := r4) (as := [vi a2]) (r := []) rfl rfl rfl rfl rfl rfl g5 (wc_mono H (Nat.le_refl _) ?_)
    rintro _ s6 ⟨r7, rfl, H⟩
    show wk iv L h0 (d + 1) 8 20 [lr a0, li a1, li a2, lr r4] [vi r7] s6 (qi F)
    refine w_if_eq rfl (fun h => ?_) (fun h => ?_)
    · replace H := H.1 h
      refine w_aload_n rfl rfl ?_
      refine w_iconst (n := 2) rfl rfl ?_
      obtain ⟨g8, H⟩ := H
      refine c_virt (p := a0) (as := [vi 2]) (r := []) rfl rfl rfl rfl rfl rfl g8 (wc_mono H (Nat.le_refl _) ?_)
      rintro _ s9 ⟨r10, rfl, H⟩
      show wk iv L h0 (d + 1) 8 40 [lr a0, li a1, li a2, lr r4] [vi r10] s9 (qi F)
      exact w_iret rfl rfl ⟨_, rfl, H⟩
    · replace H := H.2 h
      refine w_aload_n rfl rfl ?_
      obtain ⟨g11, H⟩ := H
      refine c_getr rfl rfl rfl g11 ?_
      refine w_iload_n rfl rfl ?_
      obtain ⟨g12, H⟩ := H
      obtain ⟨g13, H⟩ := H
      refine c_aald (t := 3) rfl ⟨g12, by decide, by decide⟩ g13 ?_
      obtain ⟨g14, H⟩ := H
      refine c_get rfl rfl rfl g14 ?_
      refine w_goto rfl ?_
      exact w_iret rfl rfl ⟨_, rfl, H⟩
  · replace H := H.2 h
    refine w_iconst (n := (-1)) rfl rfl ?_
    exact w_iret rfl rfl ⟨_, rfl, H⟩

/-- HoleDesk.sign(IZI)I -/
theorem C9 {iv : List (Int × Int)} {L : Nat} {h0 : MH} {d : Nat} {s : SC} {a0 : Nat} {a1 : Int} {a2 : Int} {a3 : Int} {F : Int → SC → Prop} (H : (kl s a0 = 1) ∧ (kl s (fR s a0 1) = 8) ∧ ck iv L h0 d 207 [vr (fR s a0 1), vi a1] s (qa fun r4 s3 => ((r4 = 2 → F (-1) s3) ∧ (r4 ≠ 2 → ((0 ≤ a3 → ((a2 = 0 → (kl s3 r4 = 5) ∧ ((fI s3 r4 9 ≠ (-1) → (kl s3 a0 = 1) ∧ (kl s3 (fR s3 a0 0) = 4) ∧ ck iv L h0 d 185 [vr (fR s3 a0 0), vi (fI s3 r4 9), vi a3] s3 (qi fun r9 s8 => F r9 s8)) ∧ (fI s3 r4 9 = (-1) → F (-9) s3))) ∧ (a2 ≠ 0 → (kl s3 r4 = 5) ∧ ((fI s3 r4 8 ≠ (-1) → (kl s3 a0 = 1) ∧ (kl s3 (fR s3 a0 0) = 4) ∧ ck iv L h0 d 185 [vr (fR s3 a0 0), vi (fI s3 r4 8), vi a3] s3 (qi fun r14 s13 => F r14 s13)) ∧ (fI s3 r4 8 = (-1) → F (-9) s3))))) ∧ (a3 < 0 → F (-1) s3)))))) : ck iv L h0 (d + 1) 9 [vr a0, vi a1, vi a2, vi a3] s (qi F) := by
  show wk iv L h0 (d + 1) 9 0 [lr a0, li a1, li a2, li a3] [] s (qi F)
  refine w_aload_n rfl rfl ?_
  obtain ⟨g1, H⟩ := H
  refine c_getr rfl rfl rfl g1 ?_
  refine w_iload_n rfl rfl ?_
  obtain ⟨g2, H⟩ := H
  refine c_virt (p := (fR s a0 1)) (as := [vi a1]) (r := []) rfl rfl rfl rfl rfl rfl g2 (wc_mono H (Nat.le_refl _) ?_)
  rintro _ s3 ⟨r4, rfl, H⟩
  show wk iv L h0 (d + 1) 9 8 [lr a0, li a1, li a2, li a3] [vr r4] s3 (qi F)
  refine w_astore rfl rfl ?_
  refine w_aload rfl rfl ?_
  refine c_null rfl (fun h => ?_) (fun h => ?_)
  · replace H := H.1 h
    refine w_iconst (n := (-1)) rfl rfl ?_
    exact w_iret rfl rfl ⟨_, rfl, H⟩
  · replace H := H.2 h
    refine w_iload_n rfl rfl ?_
    refine w_if_ge rfl (fun h => ?_) (fun h => ?_)
    · replace H := H.1 h
      refine w_iload_n rfl rfl ?_
      refine w_if_eq rfl (fun h => ?_) (fun h => ?_)
      · replace H := H.1 h
        refine w_aload rfl rfl ?_
        obtain ⟨g5, H⟩ := H
        refine c_get rfl rfl rfl g5 ?_
        refine w_istore rfl rfl ?_
        refine w_iload rfl rfl ?_
        refine w_iconst (n := (-1)) rfl rfl ?_
        refine w_icmp_ne rfl (fun h => ?_) (fun h => ?_)
        · replace H := H.1 h
          refine w_aload_n rfl rfl ?_
          obtain ⟨g6, H⟩ := H
          refine c_getr rfl rfl rfl g6 ?_
          refine w_iload rfl rfl ?_
          refine w_iload_n rfl rfl ?_
          obtain ⟨g7, H⟩ := H
          refine c_virt (p := (fR s3 a0 0)) (as := [vi (fI s3 r4 9), vi a3]) (r := []) rfl rfl rfl rfl rfl rfl g7 (wc_mono H (Nat.le_refl _) ?_)
          rintro _ s8 ⟨r9, rfl, H⟩
          show wk iv L h0 (d + 1) 9 61 [lr a0, li a1, li a2, li a3, lr r4, li (fI s3 r4 9)] [vi r9] s8 (qi F)
          exact w_iret rfl rfl ⟨_, rfl, H⟩
        · replace H := H.2 h
          refine w_bipush (n := (-9)) rfl rfl rfl ?_
          refine w_goto rfl ?_
          exact w_iret rfl rfl ⟨_, rfl, H⟩
      · replace H := H.2 h
        refine w_aload rfl rfl ?_
        obtain ⟨g10, H⟩ := H
        refine c_get rfl rfl rfl g10 ?_
        refine w_goto rfl ?_
        refine w_istore rfl rfl ?_
        refine w_iload rfl rfl ?_
        refine w_iconst (n := (-1)) rfl rfl ?_
        refine w_icmp_ne rfl (fun h => ?_) (fun h => ?_)
        · replace H := H.1 h
          refine w_aload_n rfl rfl ?_
          obtain ⟨g11, H⟩ := H
          refine c_getr rfl rfl rfl g11 ?_
          refine w_iload rfl rfl ?_
          refine w_iload_n rfl rfl ?_
          obtain ⟨g12, H⟩ := H
          refine c_virt (p := (fR s3 a0 0)) (as := [vi (fI s3 r4 8), vi a3]) (r := []) rfl rfl rfl rfl rfl rfl g12 (wc_mono H (Nat.le_refl _) ?_)
          rintro _ s13 ⟨r14, rfl, H⟩
          show wk iv L h0 (d + 1) 9 61 [lr a0, li a1, li a2, li a3, lr r4, li (fI s3 r4 8)] [vi r14] s13 (qi F)
          exact w_iret rfl rfl ⟨_, rfl, H⟩
        · replace H := H.2 h
          refine w_bipush (n := (-9)) rfl rfl rfl ?_
          refine w_goto rfl ?_
          exact w_iret rfl rfl ⟨_, rfl, H⟩
    · replace H := H.2 h
      refine w_iconst (n := (-1)) rfl rfl ?_
      exact w_iret rfl rfl ⟨_, rfl, H⟩

/-- HoleDesk.hole(IZ)I -/
theorem C10 {iv : List (Int × Int)} {L : Nat} {h0 : MH} {d : Nat} {s : SC} {a0 : Nat} {a1 : Int} {a2 : Int} {F : Int → SC → Prop} (H : wk iv L h0 d 10 5 [lr a0, li a1, li a2, li 0, li 0] [] s (qi F)) : ck iv L h0 d 10 [vr a0, vi a1, vi a2] s (qi F) := by
  show wk iv L h0 d 10 0 [lr a0, li a1, li a2] [] s (qi F)
  refine w_iconst (n := 0) rfl rfl ?_
  refine w_istore_n rfl rfl ?_
  refine w_iconst (n := 0) rfl rfl ?_
  refine w_istore rfl rfl ?_
  exact wp_ls (sl_s (sl_s (sl_s (sl_s (sl_s (sl_0)))))) H

/-- HoleDesk.hole(IZ)I at 5 -/
theorem C10_5 {iv : List (Int × Int)} {L : Nat} {h0 : MH} {d : Nat} {s : SC} {l0 : Nat} {l1 : Int} {l2 : Int} {l3 : Int} {l4 : Int} {F : Int → SC → Prop} (H : (kl s l0 = 1) ∧ (kl s (fR s l0 1) = 8) ∧ ((fI s (fR s l0 1) 3 ≤ l4 → F (-9) s) ∧ (l4 < fI s (fR s l0 1) 3 → (kl s (fR s (fR s l0 1) 0) = 103) ∧ (0 ≤ l4 ∧ l4 < le s (fR s (fR s l0 1) 0)) ∧ ((l2 = 0 → (kl s (aR s (fR s (fR s l0 1) 0) l4) = 5) ∧ ((fI s (aR s (fR s (fR s l0 1) 0) l4) 1 ≠ 0 → (-2147483648 ≤ l4 + 1 ∧ l4 + 1 ≤ 2147483647) ∧ wk iv L h0 d 10 5 [lr l0, li l1, li l2, li l3, li (l4 + 1)] [] s (qi F)) ∧ (fI s (aR s (fR s (fR s l0 1) 0) l4) 1 = 0 → ((l3 ≠ l1 → (-2147483648 ≤ l3 + 1 ∧ l3 + 1 ≤ 2147483647) ∧ (-2147483648 ≤ l4 + 1 ∧ l4 + 1 ≤ 2147483647) ∧ wk iv L h0 d 10 5 [lr l0, li l1, li l2, li (l3 + 1), li (l4 + 1)] [] s (qi F)) ∧ (l3 = l1 → F (fI s (aR s (fR s (fR s l0 1) 0) l4) 0) s))))) ∧ (l2 ≠ 0 → (kl s (aR s (fR s (fR s l0 1) 0) l4) = 5) ∧ ((fI s (aR s (fR s (fR s l0 1) 0) l4) 10 = 0 → (-2147483648 ≤ l4 + 1 ∧ l4 + 1 ≤ 2147483647) ∧ wk iv L h0 d 10 5 [lr l0, li l1, li l2, li l3, li (l4 + 1)] [] s (qi F)) ∧ (fI s (aR s (fR s (fR s l0 1) 0) l4) 10 ≠ 0 → ((l3 ≠ l1 → (-2147483648 ≤ l3 + 1 ∧ l3 + 1 ≤ 2147483647) ∧ (-2147483648 ≤ l4 + 1 ∧ l4 + 1 ≤ 2147483647) ∧ wk iv L h0 d 10 5 [lr l0, li l1, li l2, li (l3 + 1), li (l4 + 1)] [] s (qi F)) ∧ (l3 = l1 → F (fI s (aR s (fR s (fR s l0 1) 0) l4) 0) s))))))))) : wk iv L h0 d 10 5 [lr l0, li l1, li l2, li l3, li l4] [] s (qi F) := by
  refine w_iload rfl rfl ?_
  refine w_aload_n rfl rfl ?_
  obtain ⟨g1, H⟩ := H
  refine c_getr rfl rfl rfl g1 ?_
  obtain ⟨g2, H⟩ := H
  refine c_get rfl rfl rfl g2 ?_
  refine w_icmp_ge rfl (fun h => ?_) (fun h => ?_)
  · replace H := H.1 h
    refine w_bipush (n := (-9)) rfl rfl rfl ?_
    exact w_iret rfl rfl ⟨_, rfl, H⟩
  · replace H := H.2 h
    refine w_aload_n rfl rfl ?_
    refine c_getr rfl rfl rfl g1 ?_
    refine c_getr rfl rfl rfl g2 ?_
    refine w_iload rfl rfl ?_
    obtain ⟨g3, H⟩ := H
    obtain ⟨g4, H⟩ := H
    refine c_aald (t := 3) rfl ⟨g3, by decide, by decide⟩ g4 ?_
    refine w_astore rfl rfl ?_
    refine w_iload_n rfl rfl ?_
    refine w_if_eq rfl (fun h => ?_) (fun h => ?_)
    · replace H := H.1 h
      refine w_aload rfl rfl ?_
      obtain ⟨g5, H⟩ := H
      refine c_get rfl rfl rfl g5 ?_
      refine w_if_ne rfl (fun h => ?_) (fun h => ?_)
      · replace H := H.1 h
        obtain ⟨g6, H⟩ := H
        refine w_iinc rfl rfl rfl g6 ?_
        refine w_goto rfl ?_
        exact wp_ls (sl_s (sl_s (sl_s (sl_s (sl_s (sl_0)))))) H
      · replace H := H.2 h
        refine w_iload_n rfl rfl ?_
        refine w_iload_n rfl rfl ?_
        refine w_icmp_ne rfl (fun h => ?_) (fun h => ?_)
        · replace H := H.1 h
          obtain ⟨g7, H⟩ := H
          refine w_iinc rfl rfl rfl g7 ?_
          obtain ⟨g8, H⟩ := H
          refine w_iinc rfl rfl rfl g8 ?_
          refine w_goto rfl ?_
          exact wp_ls (sl_s (sl_s (sl_s (sl_s (sl_s (sl_0)))))) H
        · replace H := H.2 h
          refine w_aload rfl rfl ?_
          refine c_get rfl rfl rfl g5 ?_
          exact w_iret rfl rfl ⟨_, rfl, H⟩
    · replace H := H.2 h
      refine w_aload rfl rfl ?_
      obtain ⟨g9, H⟩ := H
      refine c_get rfl rfl rfl g9 ?_
      refine w_if_eq rfl (fun h => ?_) (fun h => ?_)
      · replace H := H.1 h
        obtain ⟨g10, H⟩ := H
        refine w_iinc rfl rfl rfl g10 ?_
        refine w_goto rfl ?_
        exact wp_ls (sl_s (sl_s (sl_s (sl_s (sl_s (sl_0)))))) H
      · replace H := H.2 h
        refine w_goto rfl ?_
        refine w_iload_n rfl rfl ?_
        refine w_iload_n rfl rfl ?_
        refine w_icmp_ne rfl (fun h => ?_) (fun h => ?_)
        · replace H := H.1 h
          obtain ⟨g11, H⟩ := H
          refine w_iinc rfl rfl rfl g11 ?_
          obtain ⟨g12, H⟩ := H
          refine w_iinc rfl rfl rfl g12 ?_
          refine w_goto rfl ?_
          exact wp_ls (sl_s (sl_s (sl_s (sl_s (sl_s (sl_0)))))) H
        · replace H := H.2 h
          refine w_aload rfl rfl ?_
          refine c_get rfl rfl rfl g9 ?_
          exact w_iret rfl rfl ⟨_, rfl, H⟩

/-- HoleDesk.go(I)I -/
theorem C11 {iv : List (Int × Int)} {L : Nat} {h0 : MH} {d : Nat} {s : SC} {a0 : Nat} {a1 : Int} {F : Int → SC → Prop} (H : ((a1 < 0 → F (-1) s) ∧ (0 ≤ a1 → ((a1 ≤ 5 → (kl s a0 = 1) ∧ (kl s (fR s a0 1) = 8) ∧ ck iv L h0 d 211 [vr (fR s a0 1), vi a1] s (qa fun r4 s3 => ((r4 ≠ 2 → (kl s3 a0 = 1) ∧ (kl s3 (fR s3 a0 1) = 8) ∧ (kl s3 r4 = 5) ∧ F (fI s3 r4 0) (uR s3 (fR s3 a0 1) 2 r4)) ∧ (r4 = 2 → F (-4) s3)))) ∧ (5 < a1 → F (-1) s))))) : ck iv L h0 (d + 1) 11 [vr a0, vi a1] s (qi F) := by
  show wk iv L h0 (d + 1) 11 0 [lr a0, li a1] [] s (qi F)
  refine w_iload_n rfl rfl ?_
  refine w_if_lt rfl (fun h => ?_) (fun h => ?_)
  · replace H := H.1 h
    refine w_iconst (n := (-1)) rfl rfl ?_
    exact w_iret rfl rfl ⟨_, rfl, H⟩
  · replace H := H.2 h
    refine w_iload_n rfl rfl ?_
    refine w_iconst (n := 5) rfl rfl ?_
    refine w_icmp_le rfl (fun h => ?_) (fun h => ?_)
    · replace H := H.1 h
      refine w_aload_n rfl rfl ?_
      obtain ⟨g1, H⟩ := H
      refine c_getr rfl rfl rfl g1 ?_
      refine w_iload_n rfl rfl ?_
      obtain ⟨g2, H⟩ := H
      refine c_virt (p := (fR s a0 1)) (as := [vi a1]) (r := []) rfl rfl rfl rfl rfl rfl g2 (wc_mono H (Nat.le_refl _) ?_)
      rintro _ s3 ⟨r4, rfl, H⟩
      show wk iv L h0 (d + 1) 11 19 [lr a0, li a1] [vr r4] s3 (qi F)
      refine w_astore_n rfl rfl ?_
      refine w_aload_n rfl rfl ?_
      refine c_nonnull rfl (fun h => ?_) (fun h => ?_)
      · replace H := H.1 h
        refine w_aload_n rfl rfl ?_
        obtain ⟨g5, H⟩ := H
        refine c_getr rfl rfl rfl g5 ?_
        refine w_aload_n rfl rfl ?_
        obtain ⟨g6, H⟩ := H
        refine c_putr rfl rfl rfl rfl g6 ?_
        refine w_aload_n rfl rfl ?_
        obtain ⟨g7, H⟩ := H
        refine c_get rfl rfl rfl g7 ?_
        show wk iv L h0 (d + 1) 11 39 [lr a0, li a1, lr r4] [vi (fI s3 r4 0)] (uR s3 (fR s3 a0 1) 2 r4) (qi F)
        exact w_iret rfl rfl ⟨_, rfl, H⟩
      · replace H := H.2 h
        refine w_bipush (n := (-4)) rfl rfl rfl ?_
        exact w_iret rfl rfl ⟨_, rfl, H⟩
    · replace H := H.2 h
      refine w_iconst (n := (-1)) rfl rfl ?_
      exact w_iret rfl rfl ⟨_, rfl, H⟩

/-- HoleDesk.seek(I)I -/
theorem C12 {iv : List (Int × Int)} {L : Nat} {h0 : MH} {d : Nat} {s : SC} {a0 : Nat} {a1 : Int} {F : Int → SC → Prop} (H : (kl s a0 = 1) ∧ (kl s (fR s a0 1) = 8) ∧ ck iv L h0 d 207 [vr (fR s a0 1), vi a1] s (qa fun r4 s3 => ((r4 ≠ 2 → (kl s3 a0 = 1) ∧ (kl s3 (fR s3 a0 1) = 8) ∧ F 1 (uR s3 (fR s3 a0 1) 2 r4)) ∧ (r4 = 2 → F (-1) s3)))) : ck iv L h0 (d + 1) 12 [vr a0, vi a1] s (qi F) := by
  show wk iv L h0 (d + 1) 12 0 [lr a0, li a1] [] s (qi F)
  refine w_aload_n rfl rfl ?_
  obtain ⟨g1, H⟩ := H
  refine c_getr rfl rfl rfl g1 ?_
  refine w_iload_n rfl rfl ?_
  obtain ⟨g2, H⟩ := H
  refine c_virt (p := (fR s a0 1)) (as := [vi a1]) (r := []) rfl rfl rfl rfl rfl rfl g2 (wc_mono H (Nat.le_refl _) ?_)
  rintro _ s3 ⟨r4, rfl, H⟩
  show wk iv L h0 (d + 1) 12 8 [lr a0, li a1] [vr r4] s3 (qi F)
  refine w_astore_n rfl rfl ?_
  refine w_aload_n rfl rfl ?_
  refine c_nonnull rfl (fun h => ?_) (fun h => ?_)
  · replace H := H.1 h
    refine w_aload_n rfl rfl ?_
    obtain ⟨g5, H⟩ := H
    refine c_getr rfl rfl rfl g5 ?_
    refine w_aload_n rfl rfl ?_
    obtain ⟨g6, H⟩ := H
    refine c_putr rfl rfl rfl rfl g6 ?_
    refine w_iconst (n := 1) rfl rfl ?_
    exact w_iret rfl rfl ⟨_, rfl, H⟩
  · replace H := H.2 h
    refine w_iconst (n := (-1)) rfl rfl ?_
    exact w_iret rfl rfl ⟨_, rfl, H⟩

/-- HoleDesk.put(III)I -/
theorem C13 {iv : List (Int × Int)} {L : Nat} {h0 : MH} {d : Nat} {s : SC} {a0 : Nat} {a1 : Int} {a2 : Int} {a3 : Int} {F : Int → SC → Prop} (H : ((a1 < 0 → F (-1) s) ∧ (0 ≤ a1 → ((15 < a1 → F (-1) s) ∧ (a1 ≤ 15 → ck iv L h0 d 45 [vi a1, vi a2] s (qi fun r2 s1 => ((r2 = 0 → F (-1) s1) ∧ (r2 ≠ 0 → ck iv L h0 d 44 [vi a1] s1 (qi fun r4 s3 => ((r4 = 0 → (kl s3 a0 = 1) ∧ (kl s3 (fR s3 a0 1) = 8) ∧ (kl s3 (fR s3 (fR s3 a0 1) 2) = 5) ∧ ((fI s3 (fR s3 (fR s3 a0 1) 2) 1 ≠ 0 → (0 ≤ a1 ∧ a1 < 16) ∧ ((a1 = 0 → F (-4) s3) ∧ (a1 ≠ 0 → ((pO a1 ≠ 0 → (-2147483648 ≤ (fI s3 (fR s3 a0 1) 3) + (pO a1) ∧ (fI s3 (fR s3 a0 1) 3) + (pO a1) ≤ 2147483647) ∧ ((60 < (fI s3 (fR s3 a0 1) 3) + (pO a1) → F (-2) s3) ∧ ((fI s3 (fR s3 a0 1) 3) + (pO a1) ≤ 60 → ck iv L h0 d 205 [vr (fR s3 a0 1), vi (pO a1)] s3 (qi fun r11 s10 => ((r11 = 0 → wk iv L h0 (d + 1) 13 128 [lr a0, li a1, li a2, li a3, lr (fR s3 (fR s3 a0 1) 2), li 0, li (pO a1)] [] s10 (qi F)) ∧ (r11 ≠ 0 → F (-2) s10)))))) ∧ (pO a1 = 0 → F (-4) s3))))) ∧ (fI s3 (fR s3 (fR s3 a0 1) 2) 1 = 0 → (0 ≤ a1 ∧ a1 < 16) ∧ ((a1 = 0 → F (-4) s3) ∧ (a1 ≠ 0 → ((pO a1 ≠ 0 → (-2147483648 ≤ (fI s3 (fR s3 a0 1) 3) + (pO a1) ∧ (fI s3 (fR s3 a0 1) 3) + (pO a1) ≤ 2147483647) ∧ ((60 < (fI s3 (fR s3 a0 1) 3) + (pO a1) → F (-2) s3) ∧ ((fI s3 (fR s3 a0 1) 3) + (pO a1) ≤ 60 → (-2147483648 ≤ (pO a1) + 1 ∧ (pO a1) + 1 ≤ 2147483647) ∧ ck iv L h0 d 205 [vr (fR s3 a0 1), vi ((pO a1) + 1)] s3 (qi fun r16 s15 => ((r16 = 0 → wk iv L h0 (d + 1) 13 128 [lr a0, li a1, li a2, li a3, lr (fR s3 (fR s3 a0 1) 2), li 1, li (pO a1)] [] s15 (qi F)) ∧ (r16 ≠ 0 → F (-2) s15)))))) ∧ (pO a1 = 0 → (-2147483648 ≤ (fI s3 (fR s3 a0 1) 3) + (pO a1) ∧ (fI s3 (fR s3 a0 1) 3) + (pO a1) ≤ 2147483647) ∧ ((60 < (fI s3 (fR s3 a0 1) 3) + (pO a1) → F (-2) s3) ∧ ((fI s3 (fR s3 a0 1) 3) + (pO a1) ≤ 60 → (-2147483648 ≤ (pO a1) + 1 ∧ (pO a1) + 1 ≤ 2147483647) ∧ ck iv L h0 d 205 [vr (fR s3 a0 1), vi ((pO a1) + 1)] s3 (qi fun r20 s19 => ((r20 = 0 → wk iv L h0 (d + 1) 13 128 [lr a0, li a1, li a2, li a3, lr (fR s3 (fR s3 a0 1) 2), li 1, li (pO a1)] [] s19 (qi F)) ∧ (r20 ≠ 0 → F (-2) s19)))))))))))) ∧ (r4 ≠ 0 → (kl s3 a0 = 1) ∧ (kl s3 (fR s3 a0 0) = 4) ∧ ck iv L h0 d 176 [vr (fR s3 a0 0), vi a3] s3 (qi fun r24 s23 => ((r24 ≠ 0 → (kl s23 a0 = 1) ∧ (kl s23 (fR s23 a0 1) = 8) ∧ (kl s23 (fR s23 (fR s23 a0 1) 2) = 5) ∧ ((fI s23 (fR s23 (fR s23 a0 1) 2) 1 ≠ 0 → (0 ≤ a1 ∧ a1 < 16) ∧ ((a1 = 0 → F (-4) s23) ∧ (a1 ≠ 0 → ((pO a1 ≠ 0 → (-2147483648 ≤ (fI s23 (fR s23 a0 1) 3) + (pO a1) ∧ (fI s23 (fR s23 a0 1) 3) + (pO a1) ≤ 2147483647) ∧ ((60 < (fI s23 (fR s23 a0 1) 3) + (pO a1) → F (-2) s23) ∧ ((fI s23 (fR s23 a0 1) 3) + (pO a1) ≤ 60 → ck iv L h0 d 205 [vr (fR s23 a0 1), vi (pO a1)] s23 (qi fun r31 s30 => ((r31 = 0 → wk iv L h0 (d + 1) 13 128 [lr a0, li a1, li a2, li a3, lr (fR s23 (fR s23 a0 1) 2), li 0, li (pO a1)] [] s30 (qi F)) ∧ (r31 ≠ 0 → F (-2) s30)))))) ∧ (pO a1 = 0 → F (-4) s23))))) ∧ (fI s23 (fR s23 (fR s23 a0 1) 2) 1 = 0 → (0 ≤ a1 ∧ a1 < 16) ∧ ((a1 = 0 → F (-4) s23) ∧ (a1 ≠ 0 → ((pO a1 ≠ 0 → (-2147483648 ≤ (fI s23 (fR s23 a0 1) 3) + (pO a1) ∧ (fI s23 (fR s23 a0 1) 3) + (pO a1) ≤ 2147483647) ∧ ((60 < (fI s23 (fR s23 a0 1) 3) + (pO a1) → F (-2) s23) ∧ ((fI s23 (fR s23 a0 1) 3) + (pO a1) ≤ 60 → (-2147483648 ≤ (pO a1) + 1 ∧ (pO a1) + 1 ≤ 2147483647) ∧ ck iv L h0 d 205 [vr (fR s23 a0 1), vi ((pO a1) + 1)] s23 (qi fun r36 s35 => ((r36 = 0 → wk iv L h0 (d + 1) 13 128 [lr a0, li a1, li a2, li a3, lr (fR s23 (fR s23 a0 1) 2), li 1, li (pO a1)] [] s35 (qi F)) ∧ (r36 ≠ 0 → F (-2) s35)))))) ∧ (pO a1 = 0 → (-2147483648 ≤ (fI s23 (fR s23 a0 1) 3) + (pO a1) ∧ (fI s23 (fR s23 a0 1) 3) + (pO a1) ≤ 2147483647) ∧ ((60 < (fI s23 (fR s23 a0 1) 3) + (pO a1) → F (-2) s23) ∧ ((fI s23 (fR s23 a0 1) 3) + (pO a1) ≤ 60 → (-2147483648 ≤ (pO a1) + 1 ∧ (pO a1) + 1 ≤ 2147483647) ∧ ck iv L h0 d 205 [vr (fR s23 a0 1), vi ((pO a1) + 1)] s23 (qi fun r40 s39 => ((r40 = 0 → wk iv L h0 (d + 1) 13 128 [lr a0, li a1, li a2, li a3, lr (fR s23 (fR s23 a0 1) 2), li 1, li (pO a1)] [] s39 (qi F)) ∧ (r40 ≠ 0 → F (-2) s39)))))))))))) ∧ (r24 = 0 → F (-1) s23)))))))))))))) : ck iv L h0 (d + 1) 13 [vr a0, vi a1, vi a2, vi a3] s (qi F) := by
  show wk iv L h0 (d + 1) 13 0 [lr a0, li a1, li a2, li a3] [] s (qi F)
  refine w_iload_n rfl rfl ?_
  refine w_if_lt rfl (fun h => ?_) (fun h => ?_)
  · replace H := H.1 h
    refine w_iconst (n := (-1)) rfl rfl ?_
    exact w_iret rfl rfl ⟨_, rfl, H⟩
  · replace H := H.2 h
    refine w_iload_n rfl rfl ?_
    refine w_bipush (n := 15) rfl rfl rfl ?_
    refine w_icmp_gt rfl (fun h => ?_) (fun h => ?_)
    · replace H := H.1 h
      refine w_iconst (n := (-1)) rfl rfl ?_
      exact w_iret rfl rfl ⟨_, rfl, H⟩
    · replace H := H.2 h
      refine w_iload_n rfl rfl ?_
      refine w_iload_n rfl rfl ?_
      refine w_static (as := [vi a1, vi a2]) (r := []) rfl rfl rfl rfl rfl (wc_mono H (Nat.le_refl _) ?_)
      rintro _ s1 ⟨r2, rfl, H⟩
      show wk iv L h0 (d + 1) 13 15 [lr a0, li a1, li a2, li a3] [vi r2] s1 (qi F)
      refine w_if_eq rfl (fun h => ?_) (fun h => ?_)
      · replace H := H.1 h
        refine w_iconst (n := (-1)) rfl rfl ?_
        exact w_iret rfl rfl ⟨_, rfl, H⟩
      · replace H := H.2 h
        refine w_iload_n rfl rfl ?_
        refine w_static (as := [vi a1]) (r := []) rfl rfl rfl rfl rfl (wc_mono H (Nat.le_refl _) ?_)
        rintro _ s3 ⟨r4, rfl, H⟩
        show wk iv L h0 (d + 1) 13 22 [lr a0, li a1, li a2, li a3] [vi r4] s3 (qi F)
        refine w_if_eq rfl (fun h => ?_) (fun h => ?_)
        · replace H := H.1 h
          refine w_aload_n rfl rfl ?_
          obtain ⟨g5, H⟩ := H
          refine c_getr rfl rfl rfl g5 ?_
          obtain ⟨g6, H⟩ := H
          refine c_getr rfl rfl rfl g6 ?_
          refine w_astore rfl rfl ?_
          refine w_aload rfl rfl ?_
          obtain ⟨g7, H⟩ := H
          refine c_get rfl rfl rfl g7 ?_
          refine w_if_ne rfl (fun h => ?_) (fun h => ?_)
          · replace H := H.1 h
            refine w_iconst (n := 0) rfl rfl ?_
            refine w_istore rfl rfl ?_
            refine w_getst rfl (by decide) ?_
            refine w_iload_n rfl rfl ?_
            obtain ⟨g8, H⟩ := H
            refine w_pald rfl g8 ?_
            refine w_istore rfl rfl ?_
            refine w_iload_n rfl rfl ?_
            refine w_if_eq rfl (fun h => ?_) (fun h => ?_)
            · replace H := H.1 h
              refine w_bipush (n := (-4)) rfl rfl rfl ?_
              exact w_iret rfl rfl ⟨_, rfl, H⟩
            · replace H := H.2 h
              refine w_iload rfl rfl ?_
              refine w_if_ne rfl (fun h => ?_) (fun h => ?_)
              · replace H := H.1 h
                refine w_aload_n rfl rfl ?_
                refine c_getr rfl rfl rfl g5 ?_
                refine c_get rfl rfl rfl g6 ?_
                refine w_iload rfl rfl ?_
                obtain ⟨g9, H⟩ := H
                refine w_iadd rfl g9 ?_
                refine w_bipush (n := 60) rfl rfl rfl ?_
                refine w_icmp_gt rfl (fun h => ?_) (fun h => ?_)
                · replace H := H.1 h
                  refine w_bipush (n := (-2)) rfl rfl rfl ?_
                  exact w_iret rfl rfl ⟨_, rfl, H⟩
                · replace H := H.2 h
                  refine w_aload_n rfl rfl ?_
                  refine c_getr rfl rfl rfl g5 ?_
                  refine w_iload rfl rfl ?_
                  refine w_if_eq rfl (fun _ => ?_) (fun h => absurd h (by decide))
                  refine w_iload rfl rfl ?_
                  refine c_virt (p := (fR s3 a0 1)) (as := [vi (pO a1)]) (r := []) rfl rfl rfl rfl rfl rfl g6 (wc_mono H (Nat.le_refl _) ?_)
                  rintro _ s10 ⟨r11, rfl, H⟩
                  show wk iv L h0 (d + 1) 13 122 [lr a0, li a1, li a2, li a3, lr (fR s3 (fR s3 a0 1) 2), li 0, li (pO a1)] [vi r11] s10 (qi F)
                  refine w_if_eq rfl (fun h => ?_) (fun h => ?_)
                  · replace H := H.1 h
                    exact wp_ls (sl_s (sl_s (sl_s (sl_s (sl_s (sl_s (sl_s (sl_0)))))))) H
                  · replace H := H.2 h
                    refine w_bipush (n := (-2)) rfl rfl rfl ?_
                    exact w_iret rfl rfl ⟨_, rfl, H⟩
              · replace H := H.2 h
                refine w_iload rfl rfl ?_
                refine w_if_ne rfl (fun h => absurd h (by decide)) (fun _ => ?_)
                refine w_bipush (n := (-4)) rfl rfl rfl ?_
                exact w_iret rfl rfl ⟨_, rfl, H⟩
          · replace H := H.2 h
            refine w_iconst (n := 1) rfl rfl ?_
            refine w_goto rfl ?_
            refine w_istore rfl rfl ?_
            refine w_getst rfl (by decide) ?_
            refine w_iload_n rfl rfl ?_
            obtain ⟨g12, H⟩ := H
            refine w_pald rfl g12 ?_
            refine w_istore rfl rfl ?_
            refine w_iload_n rfl rfl ?_
            refine w_if_eq rfl (fun h => ?_) (fun h => ?_)
            · replace H := H.1 h
              refine w_bipush (n := (-4)) rfl rfl rfl ?_
              exact w_iret rfl rfl ⟨_, rfl, H⟩
            · replace H := H.2 h
              refine w_iload rfl rfl ?_
              refine w_if_ne rfl (fun h => ?_) (fun h => ?_)
              · replace H := H.1 h
                refine w_aload_n rfl rfl ?_
                refine c_getr rfl rfl rfl g5 ?_
                refine c_get rfl rfl rfl g6 ?_
                refine w_iload rfl rfl ?_
                obtain ⟨g13, H⟩ := H
                refine w_iadd rfl g13 ?_
                refine w_bipush (n := 60) rfl rfl rfl ?_
                refine w_icmp_gt rfl (fun h => ?_) (fun h => ?_)
                · replace H := H.1 h
                  refine w_bipush (n := (-2)) rfl rfl rfl ?_
                  exact w_iret rfl rfl ⟨_, rfl, H⟩
                · replace H := H.2 h
                  refine w_aload_n rfl rfl ?_
                  refine c_getr rfl rfl rfl g5 ?_
                  refine w_iload rfl rfl ?_
                  refine w_if_eq rfl (fun h => absurd h (by decide)) (fun _ => ?_)
                  refine w_iload rfl rfl ?_
                  refine w_iconst (n := 1) rfl rfl ?_
                  obtain ⟨g14, H⟩ := H
                  refine w_iadd rfl g14 ?_
                  refine w_goto rfl ?_
                  refine c_virt (p := (fR s3 a0 1)) (as := [vi ((pO a1) + 1)]) (r := []) rfl rfl rfl rfl rfl rfl g6 (wc_mono H (Nat.le_refl _) ?_)
                  rintro _ s15 ⟨r16, rfl, H⟩
                  show wk iv L h0 (d + 1) 13 122 [lr a0, li a1, li a2, li a3, lr (fR s3 (fR s3 a0 1) 2), li 1, li (pO a1)] [vi r16] s15 (qi F)
                  refine w_if_eq rfl (fun h => ?_) (fun h => ?_)
                  · replace H := H.1 h
                    exact wp_ls (sl_s (sl_s (sl_s (sl_s (sl_s (sl_s (sl_s (sl_0)))))))) H
                  · replace H := H.2 h
                    refine w_bipush (n := (-2)) rfl rfl rfl ?_
                    exact w_iret rfl rfl ⟨_, rfl, H⟩
              · replace H := H.2 h
                refine w_iload rfl rfl ?_
                refine w_if_ne rfl (fun _ => ?_) (fun h => absurd h (by decide))
                refine w_aload_n rfl rfl ?_
                refine c_getr rfl rfl rfl g5 ?_
                refine c_get rfl rfl rfl g6 ?_
                refine w_iload rfl rfl ?_
                obtain ⟨g17, H⟩ := H
                refine w_iadd rfl g17 ?_
                refine w_bipush (n := 60) rfl rfl rfl ?_
                refine w_icmp_gt rfl (fun h => ?_) (fun h => ?_)
                · replace H := H.1 h
                  refine w_bipush (n := (-2)) rfl rfl rfl ?_
                  exact w_iret rfl rfl ⟨_, rfl, H⟩
                · replace H := H.2 h
                  refine w_aload_n rfl rfl ?_
                  refine c_getr rfl rfl rfl g5 ?_
                  refine w_iload rfl rfl ?_
                  refine w_if_eq rfl (fun h => absurd h (by decide)) (fun _ => ?_)
                  refine w_iload rfl rfl ?_
                  refine w_iconst (n := 1) rfl rfl ?_
                  obtain ⟨g18, H⟩ := H
                  refine w_iadd rfl g18 ?_
                  refine w_goto rfl ?_
                  refine c_virt (p := (fR s3 a0 1)) (as := [vi ((pO a1) + 1)]) (r := []) rfl rfl rfl rfl rfl rfl g6 (wc_mono H (Nat.le_refl _) ?_)
                  rintro _ s19 ⟨r20, rfl, H⟩
                  show wk iv L h0 (d + 1) 13 122 [lr a0, li a1, li a2, li a3, lr (fR s3 (fR s3 a0 1) 2), li 1, li (pO a1)] [vi r20] s19 (qi F)
                  refine w_if_eq rfl (fun h => ?_) (fun h => ?_)
                  · replace H := H.1 h
                    exact wp_ls (sl_s (sl_s (sl_s (sl_s (sl_s (sl_s (sl_s (sl_0)))))))) H
                  · replace H := H.2 h
                    refine w_bipush (n := (-2)) rfl rfl rfl ?_
                    exact w_iret rfl rfl ⟨_, rfl, H⟩
        · replace H := H.2 h
          refine w_aload_n rfl rfl ?_
          obtain ⟨g21, H⟩ := H
          refine c_getr rfl rfl rfl g21 ?_
          refine w_iload_n rfl rfl ?_
          obtain ⟨g22, H⟩ := H
          refine c_virt (p := (fR s3 a0 0)) (as := [vi a3]) (r := []) rfl rfl rfl rfl rfl rfl g22 (wc_mono H (Nat.le_refl _) ?_)
          rintro _ s23 ⟨r24, rfl, H⟩
          show wk iv L h0 (d + 1) 13 33 [lr a0, li a1, li a2, li a3] [vi r24] s23 (qi F)
          refine w_if_ne rfl (fun h => ?_) (fun h => ?_)
          · replace H := H.1 h
            refine w_aload_n rfl rfl ?_
            obtain ⟨g25, H⟩ := H
            refine c_getr rfl rfl rfl g25 ?_
            obtain ⟨g26, H⟩ := H
            refine c_getr rfl rfl rfl g26 ?_
            refine w_astore rfl rfl ?_
            refine w_aload rfl rfl ?_
            obtain ⟨g27, H⟩ := H
            refine c_get rfl rfl rfl g27 ?_
            refine w_if_ne rfl (fun h => ?_) (fun h => ?_)
            · replace H := H.1 h
              refine w_iconst (n := 0) rfl rfl ?_
              refine w_istore rfl rfl ?_
              refine w_getst rfl (by decide) ?_
              refine w_iload_n rfl rfl ?_
              obtain ⟨g28, H⟩ := H
              refine w_pald rfl g28 ?_
              refine w_istore rfl rfl ?_
              refine w_iload_n rfl rfl ?_
              refine w_if_eq rfl (fun h => ?_) (fun h => ?_)
              · replace H := H.1 h
                refine w_bipush (n := (-4)) rfl rfl rfl ?_
                exact w_iret rfl rfl ⟨_, rfl, H⟩
              · replace H := H.2 h
                refine w_iload rfl rfl ?_
                refine w_if_ne rfl (fun h => ?_) (fun h => ?_)
                · replace H := H.1 h
                  refine w_aload_n rfl rfl ?_
                  refine c_getr rfl rfl rfl g25 ?_
                  refine c_get rfl rfl rfl g26 ?_
                  refine w_iload rfl rfl ?_
                  obtain ⟨g29, H⟩ := H
                  refine w_iadd rfl g29 ?_
                  refine w_bipush (n := 60) rfl rfl rfl ?_
                  refine w_icmp_gt rfl (fun h => ?_) (fun h => ?_)
                  · replace H := H.1 h
                    refine w_bipush (n := (-2)) rfl rfl rfl ?_
                    exact w_iret rfl rfl ⟨_, rfl, H⟩
                  · replace H := H.2 h
                    refine w_aload_n rfl rfl ?_
                    refine c_getr rfl rfl rfl g25 ?_
                    refine w_iload rfl rfl ?_
                    refine w_if_eq rfl (fun _ => ?_) (fun h => absurd h (by decide))
                    refine w_iload rfl rfl ?_
                    refine c_virt (p := (fR s23 a0 1)) (as := [vi (pO a1)]) (r := []) rfl rfl rfl rfl rfl rfl g26 (wc_mono H (Nat.le_refl _) ?_)
                    rintro _ s30 ⟨r31, rfl, H⟩
                    show wk iv L h0 (d + 1) 13 122 [lr a0, li a1, li a2, li a3, lr (fR s23 (fR s23 a0 1) 2), li 0, li (pO a1)] [vi r31] s30 (qi F)
                    refine w_if_eq rfl (fun h => ?_) (fun h => ?_)
                    · replace H := H.1 h
                      exact wp_ls (sl_s (sl_s (sl_s (sl_s (sl_s (sl_s (sl_s (sl_0)))))))) H
                    · replace H := H.2 h
                      refine w_bipush (n := (-2)) rfl rfl rfl ?_
                      exact w_iret rfl rfl ⟨_, rfl, H⟩
                · replace H := H.2 h
                  refine w_iload rfl rfl ?_
                  refine w_if_ne rfl (fun h => absurd h (by decide)) (fun _ => ?_)
                  refine w_bipush (n := (-4)) rfl rfl rfl ?_
                  exact w_iret rfl rfl ⟨_, rfl, H⟩
            · replace H := H.2 h
              refine w_iconst (n := 1) rfl rfl ?_
              refine w_goto rfl ?_
              refine w_istore rfl rfl ?_
              refine w_getst rfl (by decide) ?_
              refine w_iload_n rfl rfl ?_
              obtain ⟨g32, H⟩ := H
              refine w_pald rfl g32 ?_
              refine w_istore rfl rfl ?_
              refine w_iload_n rfl rfl ?_
              refine w_if_eq rfl (fun h => ?_) (fun h => ?_)
              · replace H := H.1 h
                refine w_bipush (n := (-4)) rfl rfl rfl ?_
                exact w_iret rfl rfl ⟨_, rfl, H⟩
              · replace H := H.2 h
                refine w_iload rfl rfl ?_
                refine w_if_ne rfl (fun h => ?_) (fun h => ?_)
                · replace H := H.1 h
                  refine w_aload_n rfl rfl ?_
                  refine c_getr rfl rfl rfl g25 ?_
                  refine c_get rfl rfl rfl g26 ?_
                  refine w_iload rfl rfl ?_
                  obtain ⟨g33, H⟩ := H
                  refine w_iadd rfl g33 ?_
                  refine w_bipush (n := 60) rfl rfl rfl ?_
                  refine w_icmp_gt rfl (fun h => ?_) (fun h => ?_)
                  · replace H := H.1 h
                    refine w_bipush (n := (-2)) rfl rfl rfl ?_
                    exact w_iret rfl rfl ⟨_, rfl, H⟩
                  · replace H := H.2 h
                    refine w_aload_n rfl rfl ?_
                    refine c_getr rfl rfl rfl g25 ?_
                    refine w_iload rfl rfl ?_
                    refine w_if_eq rfl (fun h => absurd h (by decide)) (fun _ => ?_)
                    refine w_iload rfl rfl ?_
                    refine w_iconst (n := 1) rfl rfl ?_
                    obtain ⟨g34, H⟩ := H
                    refine w_iadd rfl g34 ?_
                    refine w_goto rfl ?_
                    refine c_virt (p := (fR s23 a0 1)) (as := [vi ((pO a1) + 1)]) (r := []) rfl rfl rfl rfl rfl rfl g26 (wc_mono H (Nat.le_refl _) ?_)
                    rintro _ s35 ⟨r36, rfl, H⟩
                    show wk iv L h0 (d + 1) 13 122 [lr a0, li a1, li a2, li a3, lr (fR s23 (fR s23 a0 1) 2), li 1, li (pO a1)] [vi r36] s35 (qi F)
                    refine w_if_eq rfl (fun h => ?_) (fun h => ?_)
                    · replace H := H.1 h
                      exact wp_ls (sl_s (sl_s (sl_s (sl_s (sl_s (sl_s (sl_s (sl_0)))))))) H
                    · replace H := H.2 h
                      refine w_bipush (n := (-2)) rfl rfl rfl ?_
                      exact w_iret rfl rfl ⟨_, rfl, H⟩
                · replace H := H.2 h
                  refine w_iload rfl rfl ?_
                  refine w_if_ne rfl (fun _ => ?_) (fun h => absurd h (by decide))
                  refine w_aload_n rfl rfl ?_
                  refine c_getr rfl rfl rfl g25 ?_
                  refine c_get rfl rfl rfl g26 ?_
                  refine w_iload rfl rfl ?_
                  obtain ⟨g37, H⟩ := H
                  refine w_iadd rfl g37 ?_
                  refine w_bipush (n := 60) rfl rfl rfl ?_
                  refine w_icmp_gt rfl (fun h => ?_) (fun h => ?_)
                  · replace H := H.1 h
                    refine w_bipush (n := (-2)) rfl rfl rfl ?_
                    exact w_iret rfl rfl ⟨_, rfl, H⟩
                  · replace H := H.2 h
                    refine w_aload_n rfl rfl ?_
                    refine c_getr rfl rfl rfl g25 ?_
                    refine w_iload rfl rfl ?_
                    refine w_if_eq rfl (fun h => absurd h (by decide)) (fun _ => ?_)
                    refine w_iload rfl rfl ?_
                    refine w_iconst (n := 1) rfl rfl ?_
                    obtain ⟨g38, H⟩ := H
                    refine w_iadd rfl g38 ?_
                    refine w_goto rfl ?_
                    refine c_virt (p := (fR s23 a0 1)) (as := [vi ((pO a1) + 1)]) (r := []) rfl rfl rfl rfl rfl rfl g26 (wc_mono H (Nat.le_refl _) ?_)
                    rintro _ s39 ⟨r40, rfl, H⟩
                    show wk iv L h0 (d + 1) 13 122 [lr a0, li a1, li a2, li a3, lr (fR s23 (fR s23 a0 1) 2), li 1, li (pO a1)] [vi r40] s39 (qi F)
                    refine w_if_eq rfl (fun h => ?_) (fun h => ?_)
                    · replace H := H.1 h
                      exact wp_ls (sl_s (sl_s (sl_s (sl_s (sl_s (sl_s (sl_s (sl_0)))))))) H
                    · replace H := H.2 h
                      refine w_bipush (n := (-2)) rfl rfl rfl ?_
                      exact w_iret rfl rfl ⟨_, rfl, H⟩
          · replace H := H.2 h
            refine w_iconst (n := (-1)) rfl rfl ?_
            exact w_iret rfl rfl ⟨_, rfl, H⟩

/-- HoleDesk.put(III)I at 128 -/
theorem C13_128 {iv : List (Int × Int)} {L : Nat} {h0 : MH} {d : Nat} {s : SC} {l0 : Nat} {l1 : Int} {l2 : Int} {l3 : Int} {l4 : Nat} {l5 : Int} {l6 : Int} {F : Int → SC → Prop} (H : (kl s l0 = 1) ∧ (kl s (fR s l0 1) = 8) ∧ ck iv L h0 d 219 [vr (fR s l0 1)] s (qv fun s3 => (kl s3 l0 = 1) ∧ ck iv L h0 d 43 [vi l1] s3 (qi fun r6 s5 => ((r6 = 0 → ck iv L h0 d 44 [vi l1] s5 (qi fun r8 s7 => ((r8 = 0 → (kl s7 (fR s3 l0 1) = 8) ∧ ck iv L h0 d 204 [vr (fR s3 l0 1), vi l1, vi (-9), vi (-9)] s7 (qa fun r11 s10 => (kl s10 l0 = 1) ∧ (kl s10 (fR s10 l0 1) = 8) ∧ ck iv L h0 d 208 [vr (fR s10 l0 1), vr l4, vr r11] s10 (qv fun s14 => ((l5 ≠ 0 → ((l5 = 0 → wk iv L h0 (d + 1) 13 207 [lr l0, ln, ln, ln, ln, ln, li l6, lr r11, li 1] [] s14 (qi F)) ∧ (l5 ≠ 0 → wk iv L h0 (d + 1) 13 207 [lr l0, ln, ln, ln, ln, ln, li l6, lr r11, li 0] [] s14 (qi F)))) ∧ (l5 = 0 → (kl s14 r11 = 5) ∧ ck iv L h0 d 188 [vr r11, vi 0, vr l4] s14 (qv fun s16 => ((l5 = 0 → wk iv L h0 (d + 1) 13 207 [lr l0, ln, ln, ln, ln, ln, li l6, lr r11, li 1] [] s16 (qi F)) ∧ (l5 ≠ 0 → wk iv L h0 (d + 1) 13 207 [lr l0, ln, ln, ln, ln, ln, li l6, lr r11, li 0] [] s16 (qi F))))))))) ∧ (r8 ≠ 0 → (kl s7 (fR s3 l0 1) = 8) ∧ ck iv L h0 d 204 [vr (fR s3 l0 1), vi l1, vi (-9), vi l3] s7 (qa fun r19 s18 => (kl s18 l0 = 1) ∧ (kl s18 (fR s18 l0 1) = 8) ∧ ck iv L h0 d 208 [vr (fR s18 l0 1), vr l4, vr r19] s18 (qv fun s22 => ((l5 ≠ 0 → ((l5 = 0 → wk iv L h0 (d + 1) 13 207 [lr l0, ln, ln, ln, ln, ln, li l6, lr r19, li 1] [] s22 (qi F)) ∧ (l5 ≠ 0 → wk iv L h0 (d + 1) 13 207 [lr l0, ln, ln, ln, ln, ln, li l6, lr r19, li 0] [] s22 (qi F)))) ∧ (l5 = 0 → (kl s22 r19 = 5) ∧ ck iv L h0 d 188 [vr r19, vi 0, vr l4] s22 (qv fun s24 => ((l5 = 0 → wk iv L h0 (d + 1) 13 207 [lr l0, ln, ln, ln, ln, ln, li l6, lr r19, li 1] [] s24 (qi F)) ∧ (l5 ≠ 0 → wk iv L h0 (d + 1) 13 207 [lr l0, ln, ln, ln, ln, ln, li l6, lr r19, li 0] [] s24 (qi F)))))))))))) ∧ (r6 ≠ 0 → ck iv L h0 d 44 [vi l1] s5 (qi fun r26 s25 => ((r26 = 0 → (kl s25 (fR s3 l0 1) = 8) ∧ ck iv L h0 d 204 [vr (fR s3 l0 1), vi l1, vi l2, vi (-9)] s25 (qa fun r29 s28 => (kl s28 l0 = 1) ∧ (kl s28 (fR s28 l0 1) = 8) ∧ ck iv L h0 d 208 [vr (fR s28 l0 1), vr l4, vr r29] s28 (qv fun s32 => ((l5 ≠ 0 → ((l5 = 0 → wk iv L h0 (d + 1) 13 207 [lr l0, ln, ln, ln, ln, ln, li l6, lr r29, li 1] [] s32 (qi F)) ∧ (l5 ≠ 0 → wk iv L h0 (d + 1) 13 207 [lr l0, ln, ln, ln, ln, ln, li l6, lr r29, li 0] [] s32 (qi F)))) ∧ (l5 = 0 → (kl s32 r29 = 5) ∧ ck iv L h0 d 188 [vr r29, vi 0, vr l4] s32 (qv fun s34 => ((l5 = 0 → wk iv L h0 (d + 1) 13 207 [lr l0, ln, ln, ln, ln, ln, li l6, lr r29, li 1] [] s34 (qi F)) ∧ (l5 ≠ 0 → wk iv L h0 (d + 1) 13 207 [lr l0, ln, ln, ln, ln, ln, li l6, lr r29, li 0] [] s34 (qi F))))))))) ∧ (r26 ≠ 0 → (kl s25 (fR s3 l0 1) = 8) ∧ ck iv L h0 d 204 [vr (fR s3 l0 1), vi l1, vi l2, vi l3] s25 (qa fun r37 s36 => (kl s36 l0 = 1) ∧ (kl s36 (fR s36 l0 1) = 8) ∧ ck iv L h0 d 208 [vr (fR s36 l0 1), vr l4, vr r37] s36 (qv fun s40 => ((l5 ≠ 0 → ((l5 = 0 → wk iv L h0 (d + 1) 13 207 [lr l0, ln, ln, ln, ln, ln, li l6, lr r37, li 1] [] s40 (qi F)) ∧ (l5 ≠ 0 → wk iv L h0 (d + 1) 13 207 [lr l0, ln, ln, ln, ln, ln, li l6, lr r37, li 0] [] s40 (qi F)))) ∧ (l5 = 0 → (kl s40 r37 = 5) ∧ ck iv L h0 d 188 [vr r37, vi 0, vr l4] s40 (qv fun s42 => ((l5 = 0 → wk iv L h0 (d + 1) 13 207 [lr l0, ln, ln, ln, ln, ln, li l6, lr r37, li 1] [] s42 (qi F)) ∧ (l5 ≠ 0 → wk iv L h0 (d + 1) 13 207 [lr l0, ln, ln, ln, ln, ln, li l6, lr r37, li 0] [] s42 (qi F)))))))))))))))) : wk iv L h0 (d + 1) 13 128 [lr l0, li l1, li l2, li l3, lr l4, li l5, li l6] [] s (qi F) := by
  refine w_aload_n rfl rfl ?_
  obtain ⟨g1, H⟩ := H
  refine c_getr rfl rfl rfl g1 ?_
  obtain ⟨g2, H⟩ := H
  refine c_virt (p := (fR s l0 1)) (as := []) (r := []) rfl rfl rfl rfl rfl rfl g2 (wc_mono H (Nat.le_refl _) ?_)
  rintro _ s3 ⟨rfl, H⟩
  show wk iv L h0 (d + 1) 13 135 [lr l0, li l1, li l2, li l3, lr l4, li l5, li l6] [] s3 (qi F)
  refine w_aload_n rfl rfl ?_
  obtain ⟨g4, H⟩ := H
  refine c_getr rfl rfl rfl g4 ?_
  refine w_iload_n rfl rfl ?_
  refine w_iload_n rfl rfl ?_
  refine w_static (as := [vi l1]) (r := [vi l1, vr (fR s3 l0 1)]) rfl rfl rfl rfl rfl (wc_mono H (Nat.le_refl _) ?_)
  rintro _ s5 ⟨r6, rfl, H⟩
  show wk iv L h0 (d + 1) 13 144 [lr l0, li l1, li l2, li l3, lr l4, li l5, li l6] [vi r6, vi l1, vr (fR s3 l0 1)] s5 (qi F)
  refine w_if_eq rfl (fun h => ?_) (fun h => ?_)
  · replace H := H.1 h
    refine w_bipush (n := (-9)) rfl rfl rfl ?_
    refine w_iload_n rfl rfl ?_
    refine w_static (as := [vi l1]) (r := [vi (-9), vi l1, vr (fR s3 l0 1)]) rfl rfl rfl rfl rfl (wc_mono H (Nat.le_refl _) ?_)
    rintro _ s7 ⟨r8, rfl, H⟩
    show wk iv L h0 (d + 1) 13 157 [lr l0, li l1, li l2, li l3, lr l4, li l5, li l6] [vi r8, vi (-9), vi l1, vr (fR s3 l0 1)] s7 (qi F)
    refine w_if_eq rfl (fun h => ?_) (fun h => ?_)
    · replace H := H.1 h
      refine w_bipush (n := (-9)) rfl rfl rfl ?_
      obtain ⟨g9, H⟩ := H
      refine c_virt (p := (fR s3 l0 1)) (as := [vi l1, vi (-9), vi (-9)]) (r := []) rfl rfl rfl rfl rfl rfl g9 (wc_mono H (Nat.le_refl _) ?_)
      rintro _ s10 ⟨r11, rfl, H⟩
      show wk iv L h0 (d + 1) 13 169 [lr l0, li l1, li l2, li l3, lr l4, li l5, li l6] [vr r11] s10 (qi F)
      refine w_astore rfl rfl ?_
      refine w_aload_n rfl rfl ?_
      obtain ⟨g12, H⟩ := H
      refine c_getr rfl rfl rfl g12 ?_
      refine w_aload rfl rfl ?_
      refine w_aload rfl rfl ?_
      obtain ⟨g13, H⟩ := H
      refine c_virt (p := (fR s10 l0 1)) (as := [vr l4, vr r11]) (r := []) rfl rfl rfl rfl rfl rfl g13 (wc_mono H (Nat.le_refl _) ?_)
      rintro _ s14 ⟨rfl, H⟩
      show wk iv L h0 (d + 1) 13 182 [lr l0, li l1, li l2, li l3, lr l4, li l5, li l6, lr r11] [] s14 (qi F)
      refine w_iload rfl rfl ?_
      refine w_if_ne rfl (fun h => ?_) (fun h => ?_)
      · replace H := H.1 h
        refine w_iload rfl rfl ?_
        refine w_if_eq rfl (fun h => ?_) (fun h => ?_)
        · replace H := H.1 h
          refine w_iconst (n := 1) rfl rfl ?_
          refine w_istore rfl rfl ?_
          exact wp_ls (sl_s (sl_n (sl_n (sl_n (sl_n (sl_n (sl_s (sl_s (sl_s (sl_0)))))))))) H
        · replace H := H.2 h
          refine w_iconst (n := 0) rfl rfl ?_
          refine w_goto rfl ?_
          refine w_istore rfl rfl ?_
          exact wp_ls (sl_s (sl_n (sl_n (sl_n (sl_n (sl_n (sl_s (sl_s (sl_s (sl_0)))))))))) H
      · replace H := H.2 h
        refine w_aload rfl rfl ?_
        refine w_iconst (n := 0) rfl rfl ?_
        refine w_aload rfl rfl ?_
        obtain ⟨g15, H⟩ := H
        refine c_virt (p := r11) (as := [vi 0, vr l4]) (r := []) rfl rfl rfl rfl rfl rfl g15 (wc_mono H (Nat.le_refl _) ?_)
        rintro _ s16 ⟨rfl, H⟩
        show wk iv L h0 (d + 1) 13 195 [lr l0, li l1, li l2, li l3, lr l4, li l5, li l6, lr r11] [] s16 (qi F)
        refine w_iload rfl rfl ?_
        refine w_if_eq rfl (fun h => ?_) (fun h => ?_)
        · replace H := H.1 h
          refine w_iconst (n := 1) rfl rfl ?_
          refine w_istore rfl rfl ?_
          exact wp_ls (sl_s (sl_n (sl_n (sl_n (sl_n (sl_n (sl_s (sl_s (sl_s (sl_0)))))))))) H
        · replace H := H.2 h
          refine w_iconst (n := 0) rfl rfl ?_
          refine w_goto rfl ?_
          refine w_istore rfl rfl ?_
          exact wp_ls (sl_s (sl_n (sl_n (sl_n (sl_n (sl_n (sl_s (sl_s (sl_s (sl_0)))))))))) H
    · replace H := H.2 h
      refine w_iload_n rfl rfl ?_
      refine w_goto rfl ?_
      obtain ⟨g17, H⟩ := H
      refine c_virt (p := (fR s3 l0 1)) (as := [vi l1, vi (-9), vi l3]) (r := []) rfl rfl rfl rfl rfl rfl g17 (wc_mono H (Nat.le_refl _) ?_)
      rintro _ s18 ⟨r19, rfl, H⟩
      show wk iv L h0 (d + 1) 13 169 [lr l0, li l1, li l2, li l3, lr l4, li l5, li l6] [vr r19] s18 (qi F)
      refine w_astore rfl rfl ?_
      refine w_aload_n rfl rfl ?_
      obtain ⟨g20, H⟩ := H
      refine c_getr rfl rfl rfl g20 ?_
      refine w_aload rfl rfl ?_
      refine w_aload rfl rfl ?_
      obtain ⟨g21, H⟩ := H
      refine c_virt (p := (fR s18 l0 1)) (as := [vr l4, vr r19]) (r := []) rfl rfl rfl rfl rfl rfl g21 (wc_mono H (Nat.le_refl _) ?_)
      rintro _ s22 ⟨rfl, H⟩
      show wk iv L h0 (d + 1) 13 182 [lr l0, li l1, li l2, li l3, lr l4, li l5, li l6, lr r19] [] s22 (qi F)
      refine w_iload rfl rfl ?_
      refine w_if_ne rfl (fun h => ?_) (fun h => ?_)
      · replace H := H.1 h
        refine w_iload rfl rfl ?_
        refine w_if_eq rfl (fun h => ?_) (fun h => ?_)
        · replace H := H.1 h
          refine w_iconst (n := 1) rfl rfl ?_
          refine w_istore rfl rfl ?_
          exact wp_ls (sl_s (sl_n (sl_n (sl_n (sl_n (sl_n (sl_s (sl_s (sl_s (sl_0)))))))))) H
        · replace H := H.2 h
          refine w_iconst (n := 0) rfl rfl ?_
          refine w_goto rfl ?_
          refine w_istore rfl rfl ?_
          exact wp_ls (sl_s (sl_n (sl_n (sl_n (sl_n (sl_n (sl_s (sl_s (sl_s (sl_0)))))))))) H
      · replace H := H.2 h
        refine w_aload rfl rfl ?_
        refine w_iconst (n := 0) rfl rfl ?_
        refine w_aload rfl rfl ?_
        obtain ⟨g23, H⟩ := H
        refine c_virt (p := r19) (as := [vi 0, vr l4]) (r := []) rfl rfl rfl rfl rfl rfl g23 (wc_mono H (Nat.le_refl _) ?_)
        rintro _ s24 ⟨rfl, H⟩
        show wk iv L h0 (d + 1) 13 195 [lr l0, li l1, li l2, li l3, lr l4, li l5, li l6, lr r19] [] s24 (qi F)
        refine w_iload rfl rfl ?_
        refine w_if_eq rfl (fun h => ?_) (fun h => ?_)
        · replace H := H.1 h
          refine w_iconst (n := 1) rfl rfl ?_
          refine w_istore rfl rfl ?_
          exact wp_ls (sl_s (sl_n (sl_n (sl_n (sl_n (sl_n (sl_s (sl_s (sl_s (sl_0)))))))))) H
        · replace H := H.2 h
          refine w_iconst (n := 0) rfl rfl ?_
          refine w_goto rfl ?_
          refine w_istore rfl rfl ?_
          exact wp_ls (sl_s (sl_n (sl_n (sl_n (sl_n (sl_n (sl_s (sl_s (sl_s (sl_0)))))))))) H
  · replace H := H.2 h
    refine w_iload_n rfl rfl ?_
    refine w_goto rfl ?_
    refine w_iload_n rfl rfl ?_
    refine w_static (as := [vi l1]) (r := [vi l2, vi l1, vr (fR s3 l0 1)]) rfl rfl rfl rfl rfl (wc_mono H (Nat.le_refl _) ?_)
    rintro _ s25 ⟨r26, rfl, H⟩
    show wk iv L h0 (d + 1) 13 157 [lr l0, li l1, li l2, li l3, lr l4, li l5, li l6] [vi r26, vi l2, vi l1, vr (fR s3 l0 1)] s25 (qi F)
    refine w_if_eq rfl (fun h => ?_) (fun h => ?_)
    · replace H := H.1 h
      refine w_bipush (n := (-9)) rfl rfl rfl ?_
      obtain ⟨g27, H⟩ := H
      refine c_virt (p := (fR s3 l0 1)) (as := [vi l1, vi l2, vi (-9)]) (r := []) rfl rfl rfl rfl rfl rfl g27 (wc_mono H (Nat.le_refl _) ?_)
      rintro _ s28 ⟨r29, rfl, H⟩
      show wk iv L h0 (d + 1) 13 169 [lr l0, li l1, li l2, li l3, lr l4, li l5, li l6] [vr r29] s28 (qi F)
      refine w_astore rfl rfl ?_
      refine w_aload_n rfl rfl ?_
      obtain ⟨g30, H⟩ := H
      refine c_getr rfl rfl rfl g30 ?_
      refine w_aload rfl rfl ?_
      refine w_aload rfl rfl ?_
      obtain ⟨g31, H⟩ := H
      refine c_virt (p := (fR s28 l0 1)) (as := [vr l4, vr r29]) (r := []) rfl rfl rfl rfl rfl rfl g31 (wc_mono H (Nat.le_refl _) ?_)
      rintro _ s32 ⟨rfl, H⟩
      show wk iv L h0 (d + 1) 13 182 [lr l0, li l1, li l2, li l3, lr l4, li l5, li l6, lr r29] [] s32 (qi F)
      refine w_iload rfl rfl ?_
      refine w_if_ne rfl (fun h => ?_) (fun h => ?_)
      · replace H := H.1 h
        refine w_iload rfl rfl ?_
        refine w_if_eq rfl (fun h => ?_) (fun h => ?_)
        · replace H := H.1 h
          refine w_iconst (n := 1) rfl rfl ?_
          refine w_istore rfl rfl ?_
          exact wp_ls (sl_s (sl_n (sl_n (sl_n (sl_n (sl_n (sl_s (sl_s (sl_s (sl_0)))))))))) H
        · replace H := H.2 h
          refine w_iconst (n := 0) rfl rfl ?_
          refine w_goto rfl ?_
          refine w_istore rfl rfl ?_
          exact wp_ls (sl_s (sl_n (sl_n (sl_n (sl_n (sl_n (sl_s (sl_s (sl_s (sl_0)))))))))) H
      · replace H := H.2 h
        refine w_aload rfl rfl ?_
        refine w_iconst (n := 0) rfl rfl ?_
        refine w_aload rfl rfl ?_
        obtain ⟨g33, H⟩ := H
        refine c_virt (p := r29) (as := [vi 0, vr l4]) (r := []) rfl rfl rfl rfl rfl rfl g33 (wc_mono H (Nat.le_refl _) ?_)
        rintro _ s34 ⟨rfl, H⟩
        show wk iv L h0 (d + 1) 13 195 [lr l0, li l1, li l2, li l3, lr l4, li l5, li l6, lr r29] [] s34 (qi F)
        refine w_iload rfl rfl ?_
        refine w_if_eq rfl (fun h => ?_) (fun h => ?_)
        · replace H := H.1 h
          refine w_iconst (n := 1) rfl rfl ?_
          refine w_istore rfl rfl ?_
          exact wp_ls (sl_s (sl_n (sl_n (sl_n (sl_n (sl_n (sl_s (sl_s (sl_s (sl_0)))))))))) H
        · replace H := H.2 h
          refine w_iconst (n := 0) rfl rfl ?_
          refine w_goto rfl ?_
          refine w_istore rfl rfl ?_
          exact wp_ls (sl_s (sl_n (sl_n (sl_n (sl_n (sl_n (sl_s (sl_s (sl_s (sl_0)))))))))) H
    · replace H := H.2 h
      refine w_iload_n rfl rfl ?_
      refine w_goto rfl ?_
      obtain ⟨g35, H⟩ := H
      refine c_virt (p := (fR s3 l0 1)) (as := [vi l1, vi l2, vi l3]) (r := []) rfl rfl rfl rfl rfl rfl g35 (wc_mono H (Nat.le_refl _) ?_)
      rintro _ s36 ⟨r37, rfl, H⟩
      show wk iv L h0 (d + 1) 13 169 [lr l0, li l1, li l2, li l3, lr l4, li l5, li l6] [vr r37] s36 (qi F)
      refine w_astore rfl rfl ?_
      refine w_aload_n rfl rfl ?_
      obtain ⟨g38, H⟩ := H
      refine c_getr rfl rfl rfl g38 ?_
      refine w_aload rfl rfl ?_
      refine w_aload rfl rfl ?_
      obtain ⟨g39, H⟩ := H
      refine c_virt (p := (fR s36 l0 1)) (as := [vr l4, vr r37]) (r := []) rfl rfl rfl rfl rfl rfl g39 (wc_mono H (Nat.le_refl _) ?_)
      rintro _ s40 ⟨rfl, H⟩
      show wk iv L h0 (d + 1) 13 182 [lr l0, li l1, li l2, li l3, lr l4, li l5, li l6, lr r37] [] s40 (qi F)
      refine w_iload rfl rfl ?_
      refine w_if_ne rfl (fun h => ?_) (fun h => ?_)
      · replace H := H.1 h
        refine w_iload rfl rfl ?_
        refine w_if_eq rfl (fun h => ?_) (fun h => ?_)
        · replace H := H.1 h
          refine w_iconst (n := 1) rfl rfl ?_
          refine w_istore rfl rfl ?_
          exact wp_ls (sl_s (sl_n (sl_n (sl_n (sl_n (sl_n (sl_s (sl_s (sl_s (sl_0)))))))))) H
        · replace H := H.2 h
          refine w_iconst (n := 0) rfl rfl ?_
          refine w_goto rfl ?_
          refine w_istore rfl rfl ?_
          exact wp_ls (sl_s (sl_n (sl_n (sl_n (sl_n (sl_n (sl_s (sl_s (sl_s (sl_0)))))))))) H
      · replace H := H.2 h
        refine w_aload rfl rfl ?_
        refine w_iconst (n := 0) rfl rfl ?_
        refine w_aload rfl rfl ?_
        obtain ⟨g41, H⟩ := H
        refine c_virt (p := r37) (as := [vi 0, vr l4]) (r := []) rfl rfl rfl rfl rfl rfl g41 (wc_mono H (Nat.le_refl _) ?_)
        rintro _ s42 ⟨rfl, H⟩
        show wk iv L h0 (d + 1) 13 195 [lr l0, li l1, li l2, li l3, lr l4, li l5, li l6, lr r37] [] s42 (qi F)
        refine w_iload rfl rfl ?_
        refine w_if_eq rfl (fun h => ?_) (fun h => ?_)
        · replace H := H.1 h
          refine w_iconst (n := 1) rfl rfl ?_
          refine w_istore rfl rfl ?_
          exact wp_ls (sl_s (sl_n (sl_n (sl_n (sl_n (sl_n (sl_s (sl_s (sl_s (sl_0)))))))))) H
        · replace H := H.2 h
          refine w_iconst (n := 0) rfl rfl ?_
          refine w_goto rfl ?_
          refine w_istore rfl rfl ?_
          exact wp_ls (sl_s (sl_n (sl_n (sl_n (sl_n (sl_n (sl_s (sl_s (sl_s (sl_0)))))))))) H

/-- HoleDesk.put(III)I at 207 -/
theorem C13_207 {iv : List (Int × Int)} {L : Nat} {h0 : MH} {d : Nat} {s : SC} {l0 : Nat} {l6 : Int} {l7 : Nat} {l8 : Int} {F : Int → SC → Prop} (H : ((l6 ≤ l8 → (kl s l0 = 1) ∧ (kl s (fR s l0 1) = 8) ∧ ck iv L h0 d 52 [vr l0] (uR s (fR s l0 1) 2 l7) (qv fun s3 => (kl s3 l7 = 5) ∧ F (fI s3 l7 0) s3)) ∧ (l8 < l6 → (kl s l0 = 1) ∧ (kl s (fR s l0 1) = 8) ∧ ck iv L h0 d 204 [vr (fR s l0 1), vi 0, vi (-9), vi (-9)] s (qa fun r8 s7 => (kl s7 l7 = 5) ∧ ck iv L h0 d 188 [vr l7, vi l8, vr r8] s7 (qv fun s10 => (-2147483648 ≤ l8 + 1 ∧ l8 + 1 ≤ 2147483647) ∧ wk iv L h0 (d + 1) 13 207 [lr l0, ln, ln, ln, ln, ln, li l6, lr l7, li (l8 + 1)] [] s10 (qi F)))))) : wk iv L h0 (d + 1) 13 207 [lr l0, ln, ln, ln, ln, ln, li l6, lr l7, li l8] [] s (qi F) := by
  refine w_iload rfl rfl ?_
  refine w_iload rfl rfl ?_
  refine w_icmp_ge rfl (fun h => ?_) (fun h => ?_)
  · replace H := H.1 h
    refine w_aload_n rfl rfl ?_
    obtain ⟨g1, H⟩ := H
    refine c_getr rfl rfl rfl g1 ?_
    refine w_aload rfl rfl ?_
    obtain ⟨g2, H⟩ := H
    refine c_putr rfl rfl rfl rfl g2 ?_
    refine w_aload_n rfl rfl ?_
    refine c_virt (p := l0) (as := []) (r := []) rfl rfl rfl rfl rfl rfl g1 (wc_mono H (Nat.le_refl _) ?_)
    rintro _ s3 ⟨rfl, H⟩
    show wk iv L h0 (d + 1) 13 252 [lr l0, ln, ln, ln, ln, ln, li l6, lr l7, li l8] [] s3 (qi F)
    refine w_aload rfl rfl ?_
    obtain ⟨g4, H⟩ := H
    refine c_get rfl rfl rfl g4 ?_
    exact w_iret rfl rfl ⟨_, rfl, H⟩
  · replace H := H.2 h
    refine w_aload rfl rfl ?_
    refine w_iload rfl rfl ?_
    refine w_aload_n rfl rfl ?_
    obtain ⟨g5, H⟩ := H
    refine c_getr rfl rfl rfl g5 ?_
    refine w_iconst (n := 0) rfl rfl ?_
    refine w_bipush (n := (-9)) rfl rfl rfl ?_
    refine w_bipush (n := (-9)) rfl rfl rfl ?_
    obtain ⟨g6, H⟩ := H
    refine c_virt (p := (fR s l0 1)) (as := [vi 0, vi (-9), vi (-9)]) (r := [vi l8, vr l7]) rfl rfl rfl rfl rfl rfl g6 (wc_mono H (Nat.le_refl _) ?_)
    rintro _ s7 ⟨r8, rfl, H⟩
    show wk iv L h0 (d + 1) 13 230 [lr l0, ln, ln, ln, ln, ln, li l6, lr l7, li l8] [vr r8, vi l8, vr l7] s7 (qi F)
    obtain ⟨g9, H⟩ := H
    refine c_virt (p := l7) (as := [vi l8, vr r8]) (r := []) rfl rfl rfl rfl rfl rfl g9 (wc_mono H (Nat.le_refl _) ?_)
    rintro _ s10 ⟨rfl, H⟩
    show wk iv L h0 (d + 1) 13 233 [lr l0, ln, ln, ln, ln, ln, li l6, lr l7, li l8] [] s10 (qi F)
    obtain ⟨g11, H⟩ := H
    refine w_iinc rfl rfl rfl g11 ?_
    refine w_goto rfl ?_
    exact wp_ls (sl_s (sl_n (sl_n (sl_n (sl_n (sl_n (sl_s (sl_s (sl_s (sl_0)))))))))) H

/-- HoleDesk.take()I -/
theorem C14 {iv : List (Int × Int)} {L : Nat} {h0 : MH} {d : Nat} {s : SC} {a0 : Nat} {F : Int → SC → Prop} (H : (kl s a0 = 1) ∧ (kl s (fR s a0 1) = 8) ∧ (kl s (fR s (fR s a0 1) 2) = 5) ∧ ((fI s (fR s (fR s a0 1) 2) 1 ≠ 0 → ck iv L h0 d 205 [vr (fR s a0 1), vi 1] s (qi fun r5 s4 => ((r5 = 0 → (kl s4 a0 = 1) ∧ (kl s4 (fR s4 a0 1) = 8) ∧ ck iv L h0 d 219 [vr (fR s4 a0 1)] s4 (qv fun s8 => (kl s8 a0 = 1) ∧ (kl s8 (fR s8 a0 1) = 8) ∧ ck iv L h0 d 204 [vr (fR s8 a0 1), vi 0, vi (-9), vi (-9)] s8 (qa fun r12 s11 => (kl s11 a0 = 1) ∧ (kl s11 (fR s11 a0 1) = 8) ∧ ck iv L h0 d 208 [vr (fR s11 a0 1), vr (fR s (fR s a0 1) 2), vr r12] s11 (qv fun s15 => (kl s15 a0 = 1) ∧ (kl s15 (fR s15 a0 1) = 8) ∧ ck iv L h0 d 52 [vr a0] (uR s15 (fR s15 a0 1) 2 r12) (qv fun s18 => (kl s18 r12 = 5) ∧ F (fI s18 r12 0) s18))))) ∧ (r5 ≠ 0 → F (-2) s4)))) ∧ (fI s (fR s (fR s a0 1) 2) 1 = 0 → F (-4) s))) : ck iv L h0 (d + 1) 14 [vr a0] s (qi F) := by
  show wk iv L h0 (d + 1) 14 0 [lr a0] [] s (qi F)
  refine w_aload_n rfl rfl ?_
  obtain ⟨g1, H⟩ := H
  refine c_getr rfl rfl rfl g1 ?_
  obtain ⟨g2, H⟩ := H
  refine c_getr rfl rfl rfl g2 ?_
  refine w_astore_n rfl rfl ?_
  refine w_aload_n rfl rfl ?_
  obtain ⟨g3, H⟩ := H
  refine c_get rfl rfl rfl g3 ?_
  refine w_if_ne rfl (fun h => ?_) (fun h => ?_)
  · replace H := H.1 h
    refine w_aload_n rfl rfl ?_
    refine c_getr rfl rfl rfl g1 ?_
    refine w_iconst (n := 1) rfl rfl ?_
    refine c_virt (p := (fR s a0 1)) (as := [vi 1]) (r := []) rfl rfl rfl rfl rfl rfl g2 (wc_mono H (Nat.le_refl _) ?_)
    rintro _ s4 ⟨r5, rfl, H⟩
    show wk iv L h0 (d + 1) 14 26 [lr a0, lr (fR s (fR s a0 1) 2)] [vi r5] s4 (qi F)
    refine w_if_eq rfl (fun h => ?_) (fun h => ?_)
    · replace H := H.1 h
      refine w_aload_n rfl rfl ?_
      obtain ⟨g6, H⟩ := H
      refine c_getr rfl rfl rfl g6 ?_
      obtain ⟨g7, H⟩ := H
      refine c_virt (p := (fR s4 a0 1)) (as := []) (r := []) rfl rfl rfl rfl rfl rfl g7 (wc_mono H (Nat.le_refl _) ?_)
      rintro _ s8 ⟨rfl, H⟩
      show wk iv L h0 (d + 1) 14 39 [lr a0, lr (fR s (fR s a0 1) 2)] [] s8 (qi F)
      refine w_aload_n rfl rfl ?_
      obtain ⟨g9, H⟩ := H
      refine c_getr rfl rfl rfl g9 ?_
      refine w_iconst (n := 0) rfl rfl ?_
      refine w_bipush (n := (-9)) rfl rfl rfl ?_
      refine w_bipush (n := (-9)) rfl rfl rfl ?_
      obtain ⟨g10, H⟩ := H
      refine c_virt (p := (fR s8 a0 1)) (as := [vi 0, vi (-9), vi (-9)]) (r := []) rfl rfl rfl rfl rfl rfl g10 (wc_mono H (Nat.le_refl _) ?_)
      rintro _ s11 ⟨r12, rfl, H⟩
      show wk iv L h0 (d + 1) 14 51 [lr a0, lr (fR s (fR s a0 1) 2)] [vr r12] s11 (qi F)
      refine w_astore_n rfl rfl ?_
      refine w_aload_n rfl rfl ?_
      obtain ⟨g13, H⟩ := H
      refine c_getr rfl rfl rfl g13 ?_
      refine w_aload_n rfl rfl ?_
      refine w_aload_n rfl rfl ?_
      obtain ⟨g14, H⟩ := H
      refine c_virt (p := (fR s11 a0 1)) (as := [vr (fR s (fR s a0 1) 2), vr r12]) (r := []) rfl rfl rfl rfl rfl rfl g14 (wc_mono H (Nat.le_refl _) ?_)
      rintro _ s15 ⟨rfl, H⟩
      show wk iv L h0 (d + 1) 14 61 [lr a0, lr (fR s (fR s a0 1) 2), lr r12] [] s15 (qi F)
      refine w_aload_n rfl rfl ?_
      obtain ⟨g16, H⟩ := H
      refine c_getr rfl rfl rfl g16 ?_
      refine w_aload_n rfl rfl ?_
      obtain ⟨g17, H⟩ := H
      refine c_putr rfl rfl rfl rfl g17 ?_
      refine w_aload_n rfl rfl ?_
      refine c_virt (p := a0) (as := []) (r := []) rfl rfl rfl rfl rfl rfl g16 (wc_mono H (Nat.le_refl _) ?_)
      rintro _ s18 ⟨rfl, H⟩
      show wk iv L h0 (d + 1) 14 73 [lr a0, lr (fR s (fR s a0 1) 2), lr r12] [] s18 (qi F)
      refine w_aload_n rfl rfl ?_
      obtain ⟨g19, H⟩ := H
      refine c_get rfl rfl rfl g19 ?_
      exact w_iret rfl rfl ⟨_, rfl, H⟩
    · replace H := H.2 h
      refine w_bipush (n := (-2)) rfl rfl rfl ?_
      exact w_iret rfl rfl ⟨_, rfl, H⟩
  · replace H := H.2 h
    refine w_bipush (n := (-4)) rfl rfl rfl ?_
    exact w_iret rfl rfl ⟨_, rfl, H⟩

/-- HoleDesk.unwrap(I)I -/
theorem C15 {iv : List (Int × Int)} {L : Nat} {h0 : MH} {d : Nat} {s : SC} {a0 : Nat} {a1 : Int} {F : Int → SC → Prop} (H : (kl s a0 = 1) ∧ (kl s (fR s a0 1) = 8) ∧ (kl s (fR s (fR s a0 1) 2) = 5) ∧ (100 ≤ kl s (fR s (fR s (fR s a0 1) 2) 3) ∧ kl s (fR s (fR s (fR s a0 1) 2) 3) < 108) ∧ ((le s (fR s (fR s (fR s a0 1) 2) 3) ≠ 0 → ck iv L h0 d 187 [vr (fR s (fR s a0 1) 2), vi a1] s (qi fun r6 s5 => ((r6 ≠ 0 → (kl s5 a0 = 1) ∧ (kl s5 (fR s5 a0 1) = 8) ∧ ck iv L h0 d 219 [vr (fR s5 a0 1)] s5 (qv fun s9 => (kl s9 (fR s (fR s a0 1) 2) = 5) ∧ (kl s9 (fR s9 (fR s (fR s a0 1) 2) 3) = 103) ∧ (0 ≤ a1 ∧ a1 < le s9 (fR s9 (fR s (fR s a0 1) 2) 3)) ∧ (kl s9 a0 = 1) ∧ (kl s9 (fR s9 a0 1) = 8) ∧ ck iv L h0 d 208 [vr (fR s9 a0 1), vr (fR s (fR s a0 1) 2), vr (aR s9 (fR s9 (fR s (fR s a0 1) 2) 3) a1)] s9 (qv fun s15 => (kl s15 a0 = 1) ∧ (kl s15 (fR s15 a0 1) = 8) ∧ ck iv L h0 d 52 [vr a0] (uR s15 (fR s15 a0 1) 2 (aR s9 (fR s9 (fR s (fR s a0 1) 2) 3) a1)) (qv fun s18 => (kl s18 (aR s9 (fR s9 (fR s (fR s a0 1) 2) 3) a1) = 5) ∧ F (fI s18 (aR s9 (fR s9 (fR s (fR s a0 1) 2) 3) a1) 0) s18)))) ∧ (r6 = 0 → (kl s5 a0 = 1) ∧ ck iv L h0 d 47 [vr a0, vi 2] s5 (qi fun r22 s21 => F r22 s21))))) ∧ (le s (fR s (fR s (fR s a0 1) 2) 3) = 0 → F (-4) s))) : ck iv L h0 (d + 1) 15 [vr a0, vi a1] s (qi F) := by
  show wk iv L h0 (d + 1) 15 0 [lr a0, li a1] [] s (qi F)
  refine w_aload_n rfl rfl ?_
  obtain ⟨g1, H⟩ := H
  refine c_getr rfl rfl rfl g1 ?_
  obtain ⟨g2, H⟩ := H
  refine c_getr rfl rfl rfl g2 ?_
  refine w_astore_n rfl rfl ?_
  refine w_aload_n rfl rfl ?_
  obtain ⟨g3, H⟩ := H
  refine c_getr rfl rfl rfl g3 ?_
  obtain ⟨g4, H⟩ := H
  refine c_len rfl g4 ?_
  refine w_if_ne rfl (fun h => ?_) (fun h => ?_)
  · replace H := H.1 h
    refine w_aload_n rfl rfl ?_
    refine w_iload_n rfl rfl ?_
    refine c_virt (p := (fR s (fR s a0 1) 2)) (as := [vi a1]) (r := []) rfl rfl rfl rfl rfl rfl g3 (wc_mono H (Nat.le_refl _) ?_)
    rintro _ s5 ⟨r6, rfl, H⟩
    show wk iv L h0 (d + 1) 15 24 [lr a0, li a1, lr (fR s (fR s a0 1) 2)] [vi r6] s5 (qi F)
    refine w_if_ne rfl (fun h => ?_) (fun h => ?_)
    · replace H := H.1 h
      refine w_aload_n rfl rfl ?_
      obtain ⟨g7, H⟩ := H
      refine c_getr rfl rfl rfl g7 ?_
      obtain ⟨g8, H⟩ := H
      refine c_virt (p := (fR s5 a0 1)) (as := []) (r := []) rfl rfl rfl rfl rfl rfl g8 (wc_mono H (Nat.le_refl _) ?_)
      rintro _ s9 ⟨rfl, H⟩
      show wk iv L h0 (d + 1) 15 40 [lr a0, li a1, lr (fR s (fR s a0 1) 2)] [] s9 (qi F)
      refine w_aload_n rfl rfl ?_
      obtain ⟨g10, H⟩ := H
      refine c_getr rfl rfl rfl g10 ?_
      refine w_iload_n rfl rfl ?_
      obtain ⟨g11, H⟩ := H
      obtain ⟨g12, H⟩ := H
      refine c_aald (t := 3) rfl ⟨g11, by decide, by decide⟩ g12 ?_
      refine w_astore_n rfl rfl ?_
      refine w_aload_n rfl rfl ?_
      obtain ⟨g13, H⟩ := H
      refine c_getr rfl rfl rfl g13 ?_
      refine w_aload_n rfl rfl ?_
      refine w_aload_n rfl rfl ?_
      obtain ⟨g14, H⟩ := H
      refine c_virt (p := (fR s9 a0 1)) (as := [vr (fR s (fR s a0 1) 2), vr (aR s9 (fR s9 (fR s (fR s a0 1) 2) 3) a1)]) (r := []) rfl rfl rfl rfl rfl rfl g14 (wc_mono H (Nat.le_refl _) ?_)
      rintro _ s15 ⟨rfl, H⟩
      show wk iv L h0 (d + 1) 15 56 [lr a0, li a1, lr (fR s (fR s a0 1) 2), lr (aR s9 (fR s9 (fR s (fR s a0 1) 2) 3) a1)] [] s15 (qi F)
      refine w_aload_n rfl rfl ?_
      obtain ⟨g16, H⟩ := H
      refine c_getr rfl rfl rfl g16 ?_
      refine w_aload_n rfl rfl ?_
      obtain ⟨g17, H⟩ := H
      refine c_putr rfl rfl rfl rfl g17 ?_
      refine w_aload_n rfl rfl ?_
      refine c_virt (p := a0) (as := []) (r := []) rfl rfl rfl rfl rfl rfl g16 (wc_mono H (Nat.le_refl _) ?_)
      rintro _ s18 ⟨rfl, H⟩
      show wk iv L h0 (d + 1) 15 68 [lr a0, li a1, lr (fR s (fR s a0 1) 2), lr (aR s9 (fR s9 (fR s (fR s a0 1) 2) 3) a1)] [] s18 (qi F)
      refine w_aload_n rfl rfl ?_
      obtain ⟨g19, H⟩ := H
      refine c_get rfl rfl rfl g19 ?_
      exact w_iret rfl rfl ⟨_, rfl, H⟩
    · replace H := H.2 h
      refine w_aload_n rfl rfl ?_
      refine w_iconst (n := 2) rfl rfl ?_
      obtain ⟨g20, H⟩ := H
      refine c_virt (p := a0) (as := [vi 2]) (r := []) rfl rfl rfl rfl rfl rfl g20 (wc_mono H (Nat.le_refl _) ?_)
      rintro _ s21 ⟨r22, rfl, H⟩
      show wk iv L h0 (d + 1) 15 32 [lr a0, li a1, lr (fR s (fR s a0 1) 2)] [vi r22] s21 (qi F)
      exact w_iret rfl rfl ⟨_, rfl, H⟩
  · replace H := H.2 h
    refine w_bipush (n := (-4)) rfl rfl rfl ?_
    exact w_iret rfl rfl ⟨_, rfl, H⟩

/-- HoleDesk.write(I)I -/
theorem C16 {iv : List (Int × Int)} {L : Nat} {h0 : MH} {d : Nat} {s : SC} {a0 : Nat} {a1 : Int} {F : Int → SC → Prop} (H : (kl s a0 = 1) ∧ (kl s (fR s a0 1) = 8) ∧ (kl s (fR s (fR s a0 1) 2) = 5) ∧ ((fI s (fR s (fR s a0 1) 2) 1 = 1 → ck iv L h0 d 45 [vi (fI s (fR s (fR s a0 1) 2) 1), vi a1] s (qi fun r5 s4 => ((r5 ≠ 0 → (kl s4 a0 = 1) ∧ (kl s4 (fR s4 a0 1) = 8) ∧ ck iv L h0 d 219 [vr (fR s4 a0 1)] s4 (qv fun s8 => (kl s8 (fR s (fR s a0 1) 2) = 5) ∧ (kl s8 a0 = 1) ∧ ck iv L h0 d 52 [vr a0] (uI s8 (fR s (fR s a0 1) 2) 4 a1) (qv fun s11 => F (fI s8 (fR s (fR s a0 1) 2) 4) s11))) ∧ (r5 = 0 → F (-1) s4)))) ∧ (fI s (fR s (fR s a0 1) 2) 1 ≠ 1 → ((fI s (fR s (fR s a0 1) 2) 1 = 2 → ck iv L h0 d 45 [vi (fI s (fR s (fR s a0 1) 2) 1), vi a1] s (qi fun r13 s12 => ((r13 ≠ 0 → (kl s12 a0 = 1) ∧ (kl s12 (fR s12 a0 1) = 8) ∧ ck iv L h0 d 219 [vr (fR s12 a0 1)] s12 (qv fun s16 => (kl s16 (fR s (fR s a0 1) 2) = 5) ∧ (kl s16 a0 = 1) ∧ ck iv L h0 d 52 [vr a0] (uI s16 (fR s (fR s a0 1) 2) 4 a1) (qv fun s19 => F (fI s16 (fR s (fR s a0 1) 2) 4) s19))) ∧ (r13 = 0 → F (-1) s12)))) ∧ (fI s (fR s (fR s a0 1) 2) 1 ≠ 2 → ((fI s (fR s (fR s a0 1) 2) 1 = 3 → ck iv L h0 d 45 [vi (fI s (fR s (fR s a0 1) 2) 1), vi a1] s (qi fun r21 s20 => ((r21 ≠ 0 → (kl s20 a0 = 1) ∧ (kl s20 (fR s20 a0 1) = 8) ∧ ck iv L h0 d 219 [vr (fR s20 a0 1)] s20 (qv fun s24 => (kl s24 (fR s (fR s a0 1) 2) = 5) ∧ (kl s24 a0 = 1) ∧ ck iv L h0 d 52 [vr a0] (uI s24 (fR s (fR s a0 1) 2) 4 a1) (qv fun s27 => F (fI s24 (fR s (fR s a0 1) 2) 4) s27))) ∧ (r21 = 0 → F (-1) s20)))) ∧ (fI s (fR s (fR s a0 1) 2) 1 ≠ 3 → F (-4) s))))))) : ck iv L h0 (d + 1) 16 [vr a0, vi a1] s (qi F) := by
  show wk iv L h0 (d + 1) 16 0 [lr a0, li a1] [] s (qi F)
  refine w_aload_n rfl rfl ?_
  obtain ⟨g1, H⟩ := H
  refine c_getr rfl rfl rfl g1 ?_
  obtain ⟨g2, H⟩ := H
  refine c_getr rfl rfl rfl g2 ?_
  refine w_astore_n rfl rfl ?_
  refine w_aload_n rfl rfl ?_
  obtain ⟨g3, H⟩ := H
  refine c_get rfl rfl rfl g3 ?_
  refine w_iconst (n := 1) rfl rfl ?_
  refine w_icmp_eq rfl (fun h => ?_) (fun h => ?_)
  · replace H := H.1 h
    refine w_aload_n rfl rfl ?_
    refine c_get rfl rfl rfl g3 ?_
    refine w_iload_n rfl rfl ?_
    refine w_static (as := [vi (fI s (fR s (fR s a0 1) 2) 1), vi a1]) (r := []) rfl rfl rfl rfl rfl (wc_mono H (Nat.le_refl _) ?_)
    rintro _ s4 ⟨r5, rfl, H⟩
    show wk iv L h0 (d + 1) 16 43 [lr a0, li a1, lr (fR s (fR s a0 1) 2)] [vi r5] s4 (qi F)
    refine w_if_ne rfl (fun h => ?_) (fun h => ?_)
    · replace H := H.1 h
      refine w_aload_n rfl rfl ?_
      obtain ⟨g6, H⟩ := H
      refine c_getr rfl rfl rfl g6 ?_
      obtain ⟨g7, H⟩ := H
      refine c_virt (p := (fR s4 a0 1)) (as := []) (r := []) rfl rfl rfl rfl rfl rfl g7 (wc_mono H (Nat.le_refl _) ?_)
      rintro _ s8 ⟨rfl, H⟩
      show wk iv L h0 (d + 1) 16 55 [lr a0, li a1, lr (fR s (fR s a0 1) 2)] [] s8 (qi F)
      refine w_aload_n rfl rfl ?_
      obtain ⟨g9, H⟩ := H
      refine c_get rfl rfl rfl g9 ?_
      refine w_istore_n rfl rfl ?_
      refine w_aload_n rfl rfl ?_
      refine w_iload_n rfl rfl ?_
      refine c_put rfl rfl rfl rfl g9 ?_
      refine w_aload_n rfl rfl ?_
      obtain ⟨g10, H⟩ := H
      refine c_virt (p := a0) (as := []) (r := []) rfl rfl rfl rfl rfl rfl g10 (wc_mono H (Nat.le_refl _) ?_)
      rintro _ s11 ⟨rfl, H⟩
      show wk iv L h0 (d + 1) 16 69 [lr a0, li a1, lr (fR s (fR s a0 1) 2), li (fI s8 (fR s (fR s a0 1) 2) 4)] [] s11 (qi F)
      refine w_iload_n rfl rfl ?_
      exact w_iret rfl rfl ⟨_, rfl, H⟩
    · replace H := H.2 h
      refine w_iconst (n := (-1)) rfl rfl ?_
      exact w_iret rfl rfl ⟨_, rfl, H⟩
  · replace H := H.2 h
    refine w_aload_n rfl rfl ?_
    refine c_get rfl rfl rfl g3 ?_
    refine w_iconst (n := 2) rfl rfl ?_
    refine w_icmp_eq rfl (fun h => ?_) (fun h => ?_)
    · replace H := H.1 h
      refine w_aload_n rfl rfl ?_
      refine c_get rfl rfl rfl g3 ?_
      refine w_iload_n rfl rfl ?_
      refine w_static (as := [vi (fI s (fR s (fR s a0 1) 2) 1), vi a1]) (r := []) rfl rfl rfl rfl rfl (wc_mono H (Nat.le_refl _) ?_)
      rintro _ s12 ⟨r13, rfl, H⟩
      show wk iv L h0 (d + 1) 16 43 [lr a0, li a1, lr (fR s (fR s a0 1) 2)] [vi r13] s12 (qi F)
      refine w_if_ne rfl (fun h => ?_) (fun h => ?_)
      · replace H := H.1 h
        refine w_aload_n rfl rfl ?_
        obtain ⟨g14, H⟩ := H
        refine c_getr rfl rfl rfl g14 ?_
        obtain ⟨g15, H⟩ := H
        refine c_virt (p := (fR s12 a0 1)) (as := []) (r := []) rfl rfl rfl rfl rfl rfl g15 (wc_mono H (Nat.le_refl _) ?_)
        rintro _ s16 ⟨rfl, H⟩
        show wk iv L h0 (d + 1) 16 55 [lr a0, li a1, lr (fR s (fR s a0 1) 2)] [] s16 (qi F)
        refine w_aload_n rfl rfl ?_
        obtain ⟨g17, H⟩ := H
        refine c_get rfl rfl rfl g17 ?_
        refine w_istore_n rfl rfl ?_
        refine w_aload_n rfl rfl ?_
        refine w_iload_n rfl rfl ?_
        refine c_put rfl rfl rfl rfl g17 ?_
        refine w_aload_n rfl rfl ?_
        obtain ⟨g18, H⟩ := H
        refine c_virt (p := a0) (as := []) (r := []) rfl rfl rfl rfl rfl rfl g18 (wc_mono H (Nat.le_refl _) ?_)
        rintro _ s19 ⟨rfl, H⟩
        show wk iv L h0 (d + 1) 16 69 [lr a0, li a1, lr (fR s (fR s a0 1) 2), li (fI s16 (fR s (fR s a0 1) 2) 4)] [] s19 (qi F)
        refine w_iload_n rfl rfl ?_
        exact w_iret rfl rfl ⟨_, rfl, H⟩
      · replace H := H.2 h
        refine w_iconst (n := (-1)) rfl rfl ?_
        exact w_iret rfl rfl ⟨_, rfl, H⟩
    · replace H := H.2 h
      refine w_aload_n rfl rfl ?_
      refine c_get rfl rfl rfl g3 ?_
      refine w_iconst (n := 3) rfl rfl ?_
      refine w_icmp_eq rfl (fun h => ?_) (fun h => ?_)
      · replace H := H.1 h
        refine w_aload_n rfl rfl ?_
        refine c_get rfl rfl rfl g3 ?_
        refine w_iload_n rfl rfl ?_
        refine w_static (as := [vi (fI s (fR s (fR s a0 1) 2) 1), vi a1]) (r := []) rfl rfl rfl rfl rfl (wc_mono H (Nat.le_refl _) ?_)
        rintro _ s20 ⟨r21, rfl, H⟩
        show wk iv L h0 (d + 1) 16 43 [lr a0, li a1, lr (fR s (fR s a0 1) 2)] [vi r21] s20 (qi F)
        refine w_if_ne rfl (fun h => ?_) (fun h => ?_)
        · replace H := H.1 h
          refine w_aload_n rfl rfl ?_
          obtain ⟨g22, H⟩ := H
          refine c_getr rfl rfl rfl g22 ?_
          obtain ⟨g23, H⟩ := H
          refine c_virt (p := (fR s20 a0 1)) (as := []) (r := []) rfl rfl rfl rfl rfl rfl g23 (wc_mono H (Nat.le_refl _) ?_)
          rintro _ s24 ⟨rfl, H⟩
          show wk iv L h0 (d + 1) 16 55 [lr a0, li a1, lr (fR s (fR s a0 1) 2)] [] s24 (qi F)
          refine w_aload_n rfl rfl ?_
          obtain ⟨g25, H⟩ := H
          refine c_get rfl rfl rfl g25 ?_
          refine w_istore_n rfl rfl ?_
          refine w_aload_n rfl rfl ?_
          refine w_iload_n rfl rfl ?_
          refine c_put rfl rfl rfl rfl g25 ?_
          refine w_aload_n rfl rfl ?_
          obtain ⟨g26, H⟩ := H
          refine c_virt (p := a0) (as := []) (r := []) rfl rfl rfl rfl rfl rfl g26 (wc_mono H (Nat.le_refl _) ?_)
          rintro _ s27 ⟨rfl, H⟩
          show wk iv L h0 (d + 1) 16 69 [lr a0, li a1, lr (fR s (fR s a0 1) 2), li (fI s24 (fR s (fR s a0 1) 2) 4)] [] s27 (qi F)
          refine w_iload_n rfl rfl ?_
          exact w_iret rfl rfl ⟨_, rfl, H⟩
        · replace H := H.2 h
          refine w_iconst (n := (-1)) rfl rfl ?_
          exact w_iret rfl rfl ⟨_, rfl, H⟩
      · replace H := H.2 h
        refine w_bipush (n := (-4)) rfl rfl rfl ?_
        exact w_iret rfl rfl ⟨_, rfl, H⟩

/-- HoleDesk.rename(I)I -/
theorem C17 {iv : List (Int × Int)} {L : Nat} {h0 : MH} {d : Nat} {s : SC} {a0 : Nat} {a1 : Int} {F : Int → SC → Prop} (H : ck iv L h0 d 40 [vi a1] s (qi fun r2 s1 => ((r2 ≠ 0 → (kl s1 a0 = 1) ∧ (kl s1 (fR s1 a0 1) = 8) ∧ (kl s1 (fR s1 (fR s1 a0 1) 2) = 5) ∧ ((fI s1 (fR s1 (fR s1 a0 1) 2) 1 = 8 → ck iv L h0 d 214 [vr (fR s1 a0 1), vr (fR s1 (fR s1 a0 1) 2), vi a1] s1 (qi fun r7 s6 => ((r7 = 0 → (kl s6 a0 = 1) ∧ (kl s6 (fR s6 a0 1) = 8) ∧ ck iv L h0 d 219 [vr (fR s6 a0 1)] s6 (qv fun s10 => (kl s10 a0 = 1) ∧ (kl s10 (fR s10 a0 1) = 8) ∧ ck iv L h0 d 215 [vr (fR s10 a0 1), vr (fR s1 (fR s1 a0 1) 2), vi a1] s10 (qi fun r14 s13 => (kl s13 a0 = 1) ∧ ck iv L h0 d 52 [vr a0] s13 (qv fun s16 => F r14 s16)))) ∧ (r7 ≠ 0 → F (-6) s6)))) ∧ (fI s1 (fR s1 (fR s1 a0 1) 2) 1 ≠ 8 → ((fI s1 (fR s1 (fR s1 a0 1) 2) 1 = 10 → ck iv L h0 d 214 [vr (fR s1 a0 1), vr (fR s1 (fR s1 a0 1) 2), vi a1] s1 (qi fun r18 s17 => ((r18 = 0 → (kl s17 a0 = 1) ∧ (kl s17 (fR s17 a0 1) = 8) ∧ ck iv L h0 d 219 [vr (fR s17 a0 1)] s17 (qv fun s21 => (kl s21 a0 = 1) ∧ (kl s21 (fR s21 a0 1) = 8) ∧ ck iv L h0 d 215 [vr (fR s21 a0 1), vr (fR s1 (fR s1 a0 1) 2), vi a1] s21 (qi fun r25 s24 => (kl s24 a0 = 1) ∧ ck iv L h0 d 52 [vr a0] s24 (qv fun s27 => F r25 s27)))) ∧ (r18 ≠ 0 → F (-6) s17)))) ∧ (fI s1 (fR s1 (fR s1 a0 1) 2) 1 ≠ 10 → F (-4) s1))))) ∧ (r2 = 0 → F (-1) s1)))) : ck iv L h0 (d + 1) 17 [vr a0, vi a1] s (qi F) := by
  show wk iv L h0 (d + 1) 17 0 [lr a0, li a1] [] s (qi F)
  refine w_iload_n rfl rfl ?_
  refine w_static (as := [vi a1]) (r := []) rfl rfl rfl rfl rfl (wc_mono H (Nat.le_refl _) ?_)
  rintro _ s1 ⟨r2, rfl, H⟩
  show wk iv L h0 (d + 1) 17 4 [lr a0, li a1] [vi r2] s1 (qi F)
  refine w_if_ne rfl (fun h => ?_) (fun h => ?_)
  · replace H := H.1 h
    refine w_aload_n rfl rfl ?_
    obtain ⟨g3, H⟩ := H
    refine c_getr rfl rfl rfl g3 ?_
    obtain ⟨g4, H⟩ := H
    refine c_getr rfl rfl rfl g4 ?_
    refine w_astore_n rfl rfl ?_
    refine w_aload_n rfl rfl ?_
    obtain ⟨g5, H⟩ := H
    refine c_get rfl rfl rfl g5 ?_
    refine w_bipush (n := 8) rfl rfl rfl ?_
    refine w_icmp_eq rfl (fun h => ?_) (fun h => ?_)
    · replace H := H.1 h
      refine w_aload_n rfl rfl ?_
      refine c_getr rfl rfl rfl g3 ?_
      refine w_aload_n rfl rfl ?_
      refine w_iload_n rfl rfl ?_
      refine c_virt (p := (fR s1 a0 1)) (as := [vr (fR s1 (fR s1 a0 1) 2), vi a1]) (r := []) rfl rfl rfl rfl rfl rfl g4 (wc_mono H (Nat.le_refl _) ?_)
      rintro _ s6 ⟨r7, rfl, H⟩
      show wk iv L h0 (d + 1) 17 47 [lr a0, li a1, lr (fR s1 (fR s1 a0 1) 2)] [vi r7] s6 (qi F)
      refine w_if_eq rfl (fun h => ?_) (fun h => ?_)
      · replace H := H.1 h
        refine w_aload_n rfl rfl ?_
        obtain ⟨g8, H⟩ := H
        refine c_getr rfl rfl rfl g8 ?_
        obtain ⟨g9, H⟩ := H
        refine c_virt (p := (fR s6 a0 1)) (as := []) (r := []) rfl rfl rfl rfl rfl rfl g9 (wc_mono H (Nat.le_refl _) ?_)
        rintro _ s10 ⟨rfl, H⟩
        show wk iv L h0 (d + 1) 17 60 [lr a0, li a1, lr (fR s1 (fR s1 a0 1) 2)] [] s10 (qi F)
        refine w_aload_n rfl rfl ?_
        obtain ⟨g11, H⟩ := H
        refine c_getr rfl rfl rfl g11 ?_
        refine w_aload_n rfl rfl ?_
        refine w_iload_n rfl rfl ?_
        obtain ⟨g12, H⟩ := H
        refine c_virt (p := (fR s10 a0 1)) (as := [vr (fR s1 (fR s1 a0 1) 2), vi a1]) (r := []) rfl rfl rfl rfl rfl rfl g12 (wc_mono H (Nat.le_refl _) ?_)
        rintro _ s13 ⟨r14, rfl, H⟩
        show wk iv L h0 (d + 1) 17 69 [lr a0, li a1, lr (fR s1 (fR s1 a0 1) 2)] [vi r14] s13 (qi F)
        refine w_istore_n rfl rfl ?_
        refine w_aload_n rfl rfl ?_
        obtain ⟨g15, H⟩ := H
        refine c_virt (p := a0) (as := []) (r := []) rfl rfl rfl rfl rfl rfl g15 (wc_mono H (Nat.le_refl _) ?_)
        rintro _ s16 ⟨rfl, H⟩
        show wk iv L h0 (d + 1) 17 74 [lr a0, li a1, lr (fR s1 (fR s1 a0 1) 2), li r14] [] s16 (qi F)
        refine w_iload_n rfl rfl ?_
        exact w_iret rfl rfl ⟨_, rfl, H⟩
      · replace H := H.2 h
        refine w_bipush (n := (-6)) rfl rfl rfl ?_
        exact w_iret rfl rfl ⟨_, rfl, H⟩
    · replace H := H.2 h
      refine w_aload_n rfl rfl ?_
      refine c_get rfl rfl rfl g5 ?_
      refine w_bipush (n := 10) rfl rfl rfl ?_
      refine w_icmp_eq rfl (fun h => ?_) (fun h => ?_)
      · replace H := H.1 h
        refine w_aload_n rfl rfl ?_
        refine c_getr rfl rfl rfl g3 ?_
        refine w_aload_n rfl rfl ?_
        refine w_iload_n rfl rfl ?_
        refine c_virt (p := (fR s1 a0 1)) (as := [vr (fR s1 (fR s1 a0 1) 2), vi a1]) (r := []) rfl rfl rfl rfl rfl rfl g4 (wc_mono H (Nat.le_refl _) ?_)
        rintro _ s17 ⟨r18, rfl, H⟩
        show wk iv L h0 (d + 1) 17 47 [lr a0, li a1, lr (fR s1 (fR s1 a0 1) 2)] [vi r18] s17 (qi F)
        refine w_if_eq rfl (fun h => ?_) (fun h => ?_)
        · replace H := H.1 h
          refine w_aload_n rfl rfl ?_
          obtain ⟨g19, H⟩ := H
          refine c_getr rfl rfl rfl g19 ?_
          obtain ⟨g20, H⟩ := H
          refine c_virt (p := (fR s17 a0 1)) (as := []) (r := []) rfl rfl rfl rfl rfl rfl g20 (wc_mono H (Nat.le_refl _) ?_)
          rintro _ s21 ⟨rfl, H⟩
          show wk iv L h0 (d + 1) 17 60 [lr a0, li a1, lr (fR s1 (fR s1 a0 1) 2)] [] s21 (qi F)
          refine w_aload_n rfl rfl ?_
          obtain ⟨g22, H⟩ := H
          refine c_getr rfl rfl rfl g22 ?_
          refine w_aload_n rfl rfl ?_
          refine w_iload_n rfl rfl ?_
          obtain ⟨g23, H⟩ := H
          refine c_virt (p := (fR s21 a0 1)) (as := [vr (fR s1 (fR s1 a0 1) 2), vi a1]) (r := []) rfl rfl rfl rfl rfl rfl g23 (wc_mono H (Nat.le_refl _) ?_)
          rintro _ s24 ⟨r25, rfl, H⟩
          show wk iv L h0 (d + 1) 17 69 [lr a0, li a1, lr (fR s1 (fR s1 a0 1) 2)] [vi r25] s24 (qi F)
          refine w_istore_n rfl rfl ?_
          refine w_aload_n rfl rfl ?_
          obtain ⟨g26, H⟩ := H
          refine c_virt (p := a0) (as := []) (r := []) rfl rfl rfl rfl rfl rfl g26 (wc_mono H (Nat.le_refl _) ?_)
          rintro _ s27 ⟨rfl, H⟩
          show wk iv L h0 (d + 1) 17 74 [lr a0, li a1, lr (fR s1 (fR s1 a0 1) 2), li r25] [] s27 (qi F)
          refine w_iload_n rfl rfl ?_
          exact w_iret rfl rfl ⟨_, rfl, H⟩
        · replace H := H.2 h
          refine w_bipush (n := (-6)) rfl rfl rfl ?_
          exact w_iret rfl rfl ⟨_, rfl, H⟩
      · replace H := H.2 h
        refine w_bipush (n := (-4)) rfl rfl rfl ?_
        exact w_iret rfl rfl ⟨_, rfl, H⟩
  · replace H := H.2 h
    refine w_iconst (n := (-1)) rfl rfl ?_
    exact w_iret rfl rfl ⟨_, rfl, H⟩

/-- HoleDesk.move(I)I -/
theorem C18 {iv : List (Int × Int)} {L : Nat} {h0 : MH} {d : Nat} {s : SC} {a0 : Nat} {a1 : Int} {F : Int → SC → Prop} (H : (kl s a0 = 1) ∧ (kl s (fR s a0 1) = 8) ∧ ck iv L h0 d 207 [vr (fR s a0 1), vi a1] s (qa fun r4 s3 => ((r4 ≠ 2 → (kl s3 a0 = 1) ∧ (kl s3 (fR s3 a0 1) = 8) ∧ (kl s3 r4 = 5) ∧ ((fI s3 r4 1 ≠ 0 → F (-4) s3) ∧ (fI s3 r4 1 = 0 → ck iv L h0 d 210 [vr (fR s3 a0 1), vr r4, vr (fR s3 (fR s3 a0 1) 2)] s3 (qi fun r9 s8 => ((r9 = 0 → (kl s8 a0 = 1) ∧ (kl s8 (fR s8 a0 1) = 8) ∧ ck iv L h0 d 205 [vr (fR s8 a0 1), vi 1] s8 (qi fun r13 s12 => ((r13 = 0 → (kl s12 a0 = 1) ∧ (kl s12 (fR s12 a0 1) = 8) ∧ ck iv L h0 d 216 [vr (fR s12 a0 1), vr (fR s3 (fR s3 a0 1) 2), vr r4] s12 (qi fun r17 s16 => ((r17 = 0 → (kl s16 a0 = 1) ∧ (kl s16 (fR s16 a0 1) = 8) ∧ ck iv L h0 d 219 [vr (fR s16 a0 1)] s16 (qv fun s20 => (kl s20 a0 = 1) ∧ (kl s20 (fR s20 a0 1) = 8) ∧ ck iv L h0 d 204 [vr (fR s20 a0 1), vi 0, vi (-9), vi (-9)] s20 (qa fun r24 s23 => (kl s23 a0 = 1) ∧ (kl s23 (fR s23 a0 1) = 8) ∧ ck iv L h0 d 208 [vr (fR s23 a0 1), vr (fR s3 (fR s3 a0 1) 2), vr r24] s23 (qv fun s27 => (kl s27 a0 = 1) ∧ (kl s27 (fR s27 a0 1) = 8) ∧ ck iv L h0 d 208 [vr (fR s27 a0 1), vr r4, vr (fR s3 (fR s3 a0 1) 2)] s27 (qv fun s30 => (kl s30 a0 = 1) ∧ ck iv L h0 d 52 [vr a0] s30 (qv fun s32 => (kl s32 r24 = 5) ∧ F (fI s32 r24 0) s32)))))) ∧ (r17 ≠ 0 → F (-6) s16)))) ∧ (r13 ≠ 0 → F (-2) s12)))) ∧ (r9 ≠ 0 → F (-4) s8)))))) ∧ (r4 = 2 → F (-1) s3)))) : ck iv L h0 (d + 1) 18 [vr a0, vi a1] s (qi F) := by
  show wk iv L h0 (d + 1) 18 0 [lr a0, li a1] [] s (qi F)
  refine w_aload_n rfl rfl ?_
  obtain ⟨g1, H⟩ := H
  refine c_getr rfl rfl rfl g1 ?_
  refine w_iload_n rfl rfl ?_
  obtain ⟨g2, H⟩ := H
  refine c_virt (p := (fR s a0 1)) (as := [vi a1]) (r := []) rfl rfl rfl rfl rfl rfl g2 (wc_mono H (Nat.le_refl _) ?_)
  rintro _ s3 ⟨r4, rfl, H⟩
  show wk iv L h0 (d + 1) 18 8 [lr a0, li a1] [vr r4] s3 (qi F)
  refine w_astore_n rfl rfl ?_
  refine w_aload_n rfl rfl ?_
  refine c_nonnull rfl (fun h => ?_) (fun h => ?_)
  · replace H := H.1 h
    refine w_aload_n rfl rfl ?_
    obtain ⟨g5, H⟩ := H
    refine c_getr rfl rfl rfl g5 ?_
    obtain ⟨g6, H⟩ := H
    refine c_getr rfl rfl rfl g6 ?_
    refine w_astore_n rfl rfl ?_
    refine w_aload_n rfl rfl ?_
    obtain ⟨g7, H⟩ := H
    refine c_get rfl rfl rfl g7 ?_
    refine w_if_ne rfl (fun h => ?_) (fun h => ?_)
    · replace H := H.1 h
      refine w_bipush (n := (-4)) rfl rfl rfl ?_
      exact w_iret rfl rfl ⟨_, rfl, H⟩
    · replace H := H.2 h
      refine w_aload_n rfl rfl ?_
      refine c_getr rfl rfl rfl g5 ?_
      refine w_aload_n rfl rfl ?_
      refine w_aload_n rfl rfl ?_
      refine c_virt (p := (fR s3 a0 1)) (as := [vr r4, vr (fR s3 (fR s3 a0 1) 2)]) (r := []) rfl rfl rfl rfl rfl rfl g6 (wc_mono H (Nat.le_refl _) ?_)
      rintro _ s8 ⟨r9, rfl, H⟩
      show wk iv L h0 (d + 1) 18 39 [lr a0, li a1, lr r4, lr (fR s3 (fR s3 a0 1) 2)] [vi r9] s8 (qi F)
      refine w_if_eq rfl (fun h => ?_) (fun h => ?_)
      · replace H := H.1 h
        refine w_aload_n rfl rfl ?_
        obtain ⟨g10, H⟩ := H
        refine c_getr rfl rfl rfl g10 ?_
        refine w_iconst (n := 1) rfl rfl ?_
        obtain ⟨g11, H⟩ := H
        refine c_virt (p := (fR s8 a0 1)) (as := [vi 1]) (r := []) rfl rfl rfl rfl rfl rfl g11 (wc_mono H (Nat.le_refl _) ?_)
        rintro _ s12 ⟨r13, rfl, H⟩
        show wk iv L h0 (d + 1) 18 53 [lr a0, li a1, lr r4, lr (fR s3 (fR s3 a0 1) 2)] [vi r13] s12 (qi F)
        refine w_if_eq rfl (fun h => ?_) (fun h => ?_)
        · replace H := H.1 h
          refine w_aload_n rfl rfl ?_
          obtain ⟨g14, H⟩ := H
          refine c_getr rfl rfl rfl g14 ?_
          refine w_aload_n rfl rfl ?_
          refine w_aload_n rfl rfl ?_
          obtain ⟨g15, H⟩ := H
          refine c_virt (p := (fR s12 a0 1)) (as := [vr (fR s3 (fR s3 a0 1) 2), vr r4]) (r := []) rfl rfl rfl rfl rfl rfl g15 (wc_mono H (Nat.le_refl _) ?_)
          rintro _ s16 ⟨r17, rfl, H⟩
          show wk iv L h0 (d + 1) 18 68 [lr a0, li a1, lr r4, lr (fR s3 (fR s3 a0 1) 2)] [vi r17] s16 (qi F)
          refine w_if_eq rfl (fun h => ?_) (fun h => ?_)
          · replace H := H.1 h
            refine w_aload_n rfl rfl ?_
            obtain ⟨g18, H⟩ := H
            refine c_getr rfl rfl rfl g18 ?_
            obtain ⟨g19, H⟩ := H
            refine c_virt (p := (fR s16 a0 1)) (as := []) (r := []) rfl rfl rfl rfl rfl rfl g19 (wc_mono H (Nat.le_refl _) ?_)
            rintro _ s20 ⟨rfl, H⟩
            show wk iv L h0 (d + 1) 18 81 [lr a0, li a1, lr r4, lr (fR s3 (fR s3 a0 1) 2)] [] s20 (qi F)
            refine w_aload_n rfl rfl ?_
            obtain ⟨g21, H⟩ := H
            refine c_getr rfl rfl rfl g21 ?_
            refine w_iconst (n := 0) rfl rfl ?_
            refine w_bipush (n := (-9)) rfl rfl rfl ?_
            refine w_bipush (n := (-9)) rfl rfl rfl ?_
            obtain ⟨g22, H⟩ := H
            refine c_virt (p := (fR s20 a0 1)) (as := [vi 0, vi (-9), vi (-9)]) (r := []) rfl rfl rfl rfl rfl rfl g22 (wc_mono H (Nat.le_refl _) ?_)
            rintro _ s23 ⟨r24, rfl, H⟩
            show wk iv L h0 (d + 1) 18 93 [lr a0, li a1, lr r4, lr (fR s3 (fR s3 a0 1) 2)] [vr r24] s23 (qi F)
            refine w_astore rfl rfl ?_
            refine w_aload_n rfl rfl ?_
            obtain ⟨g25, H⟩ := H
            refine c_getr rfl rfl rfl g25 ?_
            refine w_aload_n rfl rfl ?_
            refine w_aload rfl rfl ?_
            obtain ⟨g26, H⟩ := H
            refine c_virt (p := (fR s23 a0 1)) (as := [vr (fR s3 (fR s3 a0 1) 2), vr r24]) (r := []) rfl rfl rfl rfl rfl rfl g26 (wc_mono H (Nat.le_refl _) ?_)
            rintro _ s27 ⟨rfl, H⟩
            show wk iv L h0 (d + 1) 18 105 [lr a0, li a1, lr r4, lr (fR s3 (fR s3 a0 1) 2), lr r24] [] s27 (qi F)
            refine w_aload_n rfl rfl ?_
            obtain ⟨g28, H⟩ := H
            refine c_getr rfl rfl rfl g28 ?_
            refine w_aload_n rfl rfl ?_
            refine w_aload_n rfl rfl ?_
            obtain ⟨g29, H⟩ := H
            refine c_virt (p := (fR s27 a0 1)) (as := [vr r4, vr (fR s3 (fR s3 a0 1) 2)]) (r := []) rfl rfl rfl rfl rfl rfl g29 (wc_mono H (Nat.le_refl _) ?_)
            rintro _ s30 ⟨rfl, H⟩
            show wk iv L h0 (d + 1) 18 114 [lr a0, li a1, lr r4, lr (fR s3 (fR s3 a0 1) 2), lr r24] [] s30 (qi F)
            refine w_aload_n rfl rfl ?_
            obtain ⟨g31, H⟩ := H
            refine c_virt (p := a0) (as := []) (r := []) rfl rfl rfl rfl rfl rfl g31 (wc_mono H (Nat.le_refl _) ?_)
            rintro _ s32 ⟨rfl, H⟩
            show wk iv L h0 (d + 1) 18 118 [lr a0, li a1, lr r4, lr (fR s3 (fR s3 a0 1) 2), lr r24] [] s32 (qi F)
            refine w_aload rfl rfl ?_
            obtain ⟨g33, H⟩ := H
            refine c_get rfl rfl rfl g33 ?_
            exact w_iret rfl rfl ⟨_, rfl, H⟩
          · replace H := H.2 h
            refine w_bipush (n := (-6)) rfl rfl rfl ?_
            exact w_iret rfl rfl ⟨_, rfl, H⟩
        · replace H := H.2 h
          refine w_bipush (n := (-2)) rfl rfl rfl ?_
          exact w_iret rfl rfl ⟨_, rfl, H⟩
      · replace H := H.2 h
        refine w_bipush (n := (-4)) rfl rfl rfl ?_
        exact w_iret rfl rfl ⟨_, rfl, H⟩
  · replace H := H.2 h
    refine w_iconst (n := (-1)) rfl rfl ?_
    exact w_iret rfl rfl ⟨_, rfl, H⟩
end
section
/-! What the methods of the desk come to. Printed by wip/gen2/gens.py. -/
/-- HoleDesk.shelve(I)I -/
theorem C19 {iv : List (Int × Int)} {L : Nat} {h0 : MH} {d : Nat} {s : SC} {a0 : Nat} {a1 : Int} {F : Int → SC → Prop} (H : ck iv L h0 d 41 [vi a1] s (qi fun r2 s1 => ((r2 ≠ 0 → (kl s1 a0 = 1) ∧ (kl s1 (fR s1 a0 6) = 105) ∧ (0 ≤ a1 ∧ a1 < le s1 (fR s1 a0 6)) ∧ (kl s1 (fR s1 a0 1) = 8) ∧ (kl s1 (aR s1 (fR s1 a0 6) a1) = 2) ∧ ck iv L h0 d 160 [vr (aR s1 (fR s1 a0 6) a1), vr (fR s1 a0 1), vr (fR s1 (fR s1 a0 1) 2)] s1 (qv fun s8 => (kl s8 a0 = 1) ∧ (kl s8 (fR s8 a0 6) = 105) ∧ (0 ≤ a1 ∧ a1 < le s8 (fR s8 a0 6)) ∧ (kl s8 (aR s8 (fR s8 a0 6) a1) = 2) ∧ F (fI s8 (aR s8 (fR s8 a0 6) a1) 5) s8)) ∧ (r2 = 0 → F (-1) s1)))) : ck iv L h0 (d + 1) 19 [vr a0, vi a1] s (qi F) := by
  show wk iv L h0 (d + 1) 19 0 [lr a0, li a1] [] s (qi F)
  refine w_iload_n rfl rfl ?_
  refine w_static (as := [vi a1]) (r := []) rfl rfl rfl rfl rfl (wc_mono H (Nat.le_refl _) ?_)
  rintro _ s1 ⟨r2, rfl, H⟩
  show wk iv L h0 (d + 1) 19 4 [lr a0, li a1] [vi r2] s1 (qi F)
  refine w_if_ne rfl (fun h => ?_) (fun h => ?_)
  · replace H := H.1 h
    refine w_aload_n rfl rfl ?_
    obtain ⟨g3, H⟩ := H
    refine c_getr rfl rfl rfl g3 ?_
    refine w_iload_n rfl rfl ?_
    obtain ⟨g4, H⟩ := H
    obtain ⟨g5, H⟩ := H
    refine c_aald (t := 5) rfl ⟨g4, by decide, by decide⟩ g5 ?_
    refine w_aload_n rfl rfl ?_
    refine c_getr rfl rfl rfl g3 ?_
    refine w_aload_n rfl rfl ?_
    refine c_getr rfl rfl rfl g3 ?_
    obtain ⟨g6, H⟩ := H
    refine c_getr rfl rfl rfl g6 ?_
    obtain ⟨g7, H⟩ := H
    refine c_virt (p := (aR s1 (fR s1 a0 6) a1)) (as := [vr (fR s1 a0 1), vr (fR s1 (fR s1 a0 1) 2)]) (r := []) rfl rfl rfl rfl rfl rfl g7 (wc_mono H (Nat.le_refl _) ?_)
    rintro _ s8 ⟨rfl, H⟩
    show wk iv L h0 (d + 1) 19 29 [lr a0, li a1] [] s8 (qi F)
    refine w_aload_n rfl rfl ?_
    obtain ⟨g9, H⟩ := H
    refine c_getr rfl rfl rfl g9 ?_
    refine w_iload_n rfl rfl ?_
    obtain ⟨g10, H⟩ := H
    obtain ⟨g11, H⟩ := H
    refine c_aald (t := 5) rfl ⟨g10, by decide, by decide⟩ g11 ?_
    obtain ⟨g12, H⟩ := H
    refine c_get rfl rfl rfl g12 ?_
    exact w_iret rfl rfl ⟨_, rfl, H⟩
  · replace H := H.2 h
    refine w_iconst (n := (-1)) rfl rfl ?_
    exact w_iret rfl rfl ⟨_, rfl, H⟩

/-- HoleDesk.fill(I)I -/
theorem C20 {iv : List (Int × Int)} {L : Nat} {h0 : MH} {d : Nat} {s : SC} {a0 : Nat} {a1 : Int} {F : Int → SC → Prop} (H : ck iv L h0 d 41 [vi a1] s (qi fun r2 s1 => ((r2 ≠ 0 → (kl s1 a0 = 1) ∧ (kl s1 (fR s1 a0 1) = 8) ∧ (kl s1 (fR s1 (fR s1 a0 1) 2) = 5) ∧ ((fI s1 (fR s1 (fR s1 a0 1) 2) 1 = 0 → (kl s1 (fR s1 a0 6) = 105) ∧ (0 ≤ a1 ∧ a1 < le s1 (fR s1 a0 6)) ∧ (-2147483648 ≤ (fI s1 (fR s1 a0 1) 3) - 1 ∧ (fI s1 (fR s1 a0 1) 3) - 1 ≤ 2147483647) ∧ (kl s1 (aR s1 (fR s1 a0 6) a1) = 2) ∧ (-2147483648 ≤ ((fI s1 (fR s1 a0 1) 3) - 1) + (fI s1 (aR s1 (fR s1 a0 6) a1) 5) ∧ ((fI s1 (fR s1 a0 1) 3) - 1) + (fI s1 (aR s1 (fR s1 a0 6) a1) 5) ≤ 2147483647) ∧ ((60 < ((fI s1 (fR s1 a0 1) 3) - 1) + (fI s1 (aR s1 (fR s1 a0 6) a1) 5) → F (-2) s1) ∧ (((fI s1 (fR s1 a0 1) 3) - 1) + (fI s1 (aR s1 (fR s1 a0 6) a1) 5) ≤ 60 → ck iv L h0 d 205 [vr (fR s1 a0 1), vi (fI s1 (aR s1 (fR s1 a0 6) a1) 5)] s1 (qi fun r12 s11 => ((r12 = 0 → (kl s11 (aR s1 (fR s1 a0 6) a1) = 2) ∧ ((fI s11 (aR s1 (fR s1 a0 6) a1) 5 ≠ 0 → (kl s11 a0 = 1) ∧ (kl s11 (fR s11 a0 1) = 8) ∧ ck iv L h0 d 219 [vr (fR s11 a0 1)] s11 (qv fun s16 => (kl s16 a0 = 1) ∧ (kl s16 (aR s1 (fR s1 a0 6) a1) = 2) ∧ ck iv L h0 d 161 [vr (aR s1 (fR s1 a0 6) a1), vr (fR s16 a0 1)] s16 (qa fun r20 s19 => (kl s19 a0 = 1) ∧ (kl s19 (fR s19 a0 1) = 8) ∧ ck iv L h0 d 208 [vr (fR s19 a0 1), vr (fR s1 (fR s1 a0 1) 2), vr r20] s19 (qv fun s23 => (kl s23 (fR s1 (fR s1 a0 1) 2) = 5) ∧ (kl s23 a0 = 1) ∧ (kl s23 (fR s23 a0 1) = 8) ∧ ck iv L h0 d 51 [vr a0] (uR (uR s23 (fR s1 (fR s1 a0 1) 2) 12 r20) (fR s23 a0 1) 2 r20) (qv fun s27 => (kl s27 r20 = 5) ∧ F (fI s27 r20 0) s27))))) ∧ (fI s11 (aR s1 (fR s1 a0 6) a1) 5 = 0 → (kl s11 a0 = 1) ∧ ck iv L h0 d 47 [vr a0, vi 1] s11 (qi fun r31 s30 => F r31 s30)))) ∧ (r12 ≠ 0 → F (-2) s11)))))) ∧ (fI s1 (fR s1 (fR s1 a0 1) 2) 1 ≠ 0 → F (-4) s1))) ∧ (r2 = 0 → F (-1) s1)))) : ck iv L h0 (d + 1) 20 [vr a0, vi a1] s (qi F) := by
  show wk iv L h0 (d + 1) 20 0 [lr a0, li a1] [] s (qi F)
  refine w_iload_n rfl rfl ?_
  refine w_static (as := [vi a1]) (r := []) rfl rfl rfl rfl rfl (wc_mono H (Nat.le_refl _) ?_)
  rintro _ s1 ⟨r2, rfl, H⟩
  show wk iv L h0 (d + 1) 20 4 [lr a0, li a1] [vi r2] s1 (qi F)
  refine w_if_ne rfl (fun h => ?_) (fun h => ?_)
  · replace H := H.1 h
    refine w_aload_n rfl rfl ?_
    obtain ⟨g3, H⟩ := H
    refine c_getr rfl rfl rfl g3 ?_
    obtain ⟨g4, H⟩ := H
    refine c_getr rfl rfl rfl g4 ?_
    refine w_astore_n rfl rfl ?_
    refine w_aload_n rfl rfl ?_
    obtain ⟨g5, H⟩ := H
    refine c_get rfl rfl rfl g5 ?_
    refine w_if_eq rfl (fun h => ?_) (fun h => ?_)
    · replace H := H.1 h
      refine w_aload_n rfl rfl ?_
      refine c_getr rfl rfl rfl g3 ?_
      refine w_iload_n rfl rfl ?_
      obtain ⟨g6, H⟩ := H
      obtain ⟨g7, H⟩ := H
      refine c_aald (t := 5) rfl ⟨g6, by decide, by decide⟩ g7 ?_
      refine w_astore_n rfl rfl ?_
      refine w_aload_n rfl rfl ?_
      refine c_getr rfl rfl rfl g3 ?_
      refine c_get rfl rfl rfl g4 ?_
      refine w_iconst (n := 1) rfl rfl ?_
      obtain ⟨g8, H⟩ := H
      refine w_isub rfl g8 ?_
      refine w_aload_n rfl rfl ?_
      obtain ⟨g9, H⟩ := H
      refine c_get rfl rfl rfl g9 ?_
      obtain ⟨g10, H⟩ := H
      refine w_iadd rfl g10 ?_
      refine w_bipush (n := 60) rfl rfl rfl ?_
      refine w_icmp_gt rfl (fun h => ?_) (fun h => ?_)
      · replace H := H.1 h
        refine w_bipush (n := (-2)) rfl rfl rfl ?_
        exact w_iret rfl rfl ⟨_, rfl, H⟩
      · replace H := H.2 h
        refine w_aload_n rfl rfl ?_
        refine c_getr rfl rfl rfl g3 ?_
        refine w_aload_n rfl rfl ?_
        refine c_get rfl rfl rfl g9 ?_
        refine c_virt (p := (fR s1 a0 1)) (as := [vi (fI s1 (aR s1 (fR s1 a0 6) a1) 5)]) (r := []) rfl rfl rfl rfl rfl rfl g4 (wc_mono H (Nat.le_refl _) ?_)
        rintro _ s11 ⟨r12, rfl, H⟩
        show wk iv L h0 (d + 1) 20 64 [lr a0, li a1, lr (fR s1 (fR s1 a0 1) 2), lr (aR s1 (fR s1 a0 6) a1)] [vi r12] s11 (qi F)
        refine w_if_eq rfl (fun h => ?_) (fun h => ?_)
        · replace H := H.1 h
          refine w_aload_n rfl rfl ?_
          obtain ⟨g13, H⟩ := H
          refine c_get rfl rfl rfl g13 ?_
          refine w_if_ne rfl (fun h => ?_) (fun h => ?_)
          · replace H := H.1 h
            refine w_aload_n rfl rfl ?_
            obtain ⟨g14, H⟩ := H
            refine c_getr rfl rfl rfl g14 ?_
            obtain ⟨g15, H⟩ := H
            refine c_virt (p := (fR s11 a0 1)) (as := []) (r := []) rfl rfl rfl rfl rfl rfl g15 (wc_mono H (Nat.le_refl _) ?_)
            rintro _ s16 ⟨rfl, H⟩
            show wk iv L h0 (d + 1) 20 90 [lr a0, li a1, lr (fR s1 (fR s1 a0 1) 2), lr (aR s1 (fR s1 a0 6) a1)] [] s16 (qi F)
            refine w_aload_n rfl rfl ?_
            refine w_aload_n rfl rfl ?_
            obtain ⟨g17, H⟩ := H
            refine c_getr rfl rfl rfl g17 ?_
            obtain ⟨g18, H⟩ := H
            refine c_virt (p := (aR s1 (fR s1 a0 6) a1)) (as := [vr (fR s16 a0 1)]) (r := []) rfl rfl rfl rfl rfl rfl g18 (wc_mono H (Nat.le_refl _) ?_)
            rintro _ s19 ⟨r20, rfl, H⟩
            show wk iv L h0 (d + 1) 20 98 [lr a0, li a1, lr (fR s1 (fR s1 a0 1) 2), lr (aR s1 (fR s1 a0 6) a1)] [vr r20] s19 (qi F)
            refine w_astore rfl rfl ?_
            refine w_aload_n rfl rfl ?_
            obtain ⟨g21, H⟩ := H
            refine c_getr rfl rfl rfl g21 ?_
            refine w_aload_n rfl rfl ?_
            refine w_aload rfl rfl ?_
            obtain ⟨g22, H⟩ := H
            refine c_virt (p := (fR s19 a0 1)) (as := [vr (fR s1 (fR s1 a0 1) 2), vr r20]) (r := []) rfl rfl rfl rfl rfl rfl g22 (wc_mono H (Nat.le_refl _) ?_)
            rintro _ s23 ⟨rfl, H⟩
            show wk iv L h0 (d + 1) 20 110 [lr a0, li a1, lr (fR s1 (fR s1 a0 1) 2), lr (aR s1 (fR s1 a0 6) a1), lr r20] [] s23 (qi F)
            refine w_aload_n rfl rfl ?_
            refine w_aload rfl rfl ?_
            obtain ⟨g24, H⟩ := H
            refine c_putr rfl rfl rfl rfl g24 ?_
            refine w_aload_n rfl rfl ?_
            obtain ⟨g25, H⟩ := H
            refine c_getr rfl rfl rfl g25 ?_
            show wk iv L h0 (d + 1) 20 120 [lr a0, li a1, lr (fR s1 (fR s1 a0 1) 2), lr (aR s1 (fR s1 a0 6) a1), lr r20] [vr (fR s23 a0 1)] (uR s23 (fR s1 (fR s1 a0 1) 2) 12 r20) (qi F)
            refine w_aload rfl rfl ?_
            obtain ⟨g26, H⟩ := H
            refine c_putr rfl rfl rfl rfl g26 ?_
            refine w_aload_n rfl rfl ?_
            refine c_virt (p := a0) (as := []) (r := []) rfl rfl rfl rfl rfl rfl g25 (wc_mono H (Nat.le_refl _) ?_)
            rintro _ s27 ⟨rfl, H⟩
            show wk iv L h0 (d + 1) 20 129 [lr a0, li a1, lr (fR s1 (fR s1 a0 1) 2), lr (aR s1 (fR s1 a0 6) a1), lr r20] [] s27 (qi F)
            refine w_aload rfl rfl ?_
            obtain ⟨g28, H⟩ := H
            refine c_get rfl rfl rfl g28 ?_
            exact w_iret rfl rfl ⟨_, rfl, H⟩
          · replace H := H.2 h
            refine w_aload_n rfl rfl ?_
            refine w_iconst (n := 1) rfl rfl ?_
            obtain ⟨g29, H⟩ := H
            refine c_virt (p := a0) (as := [vi 1]) (r := []) rfl rfl rfl rfl rfl rfl g29 (wc_mono H (Nat.le_refl _) ?_)
            rintro _ s30 ⟨r31, rfl, H⟩
            show wk iv L h0 (d + 1) 20 82 [lr a0, li a1, lr (fR s1 (fR s1 a0 1) 2), lr (aR s1 (fR s1 a0 6) a1)] [vi r31] s30 (qi F)
            exact w_iret rfl rfl ⟨_, rfl, H⟩
        · replace H := H.2 h
          refine w_bipush (n := (-2)) rfl rfl rfl ?_
          exact w_iret rfl rfl ⟨_, rfl, H⟩
    · replace H := H.2 h
      refine w_bipush (n := (-4)) rfl rfl rfl ?_
      exact w_iret rfl rfl ⟨_, rfl, H⟩
  · replace H := H.2 h
    refine w_iconst (n := (-1)) rfl rfl ?_
    exact w_iret rfl rfl ⟨_, rfl, H⟩

/-- HoleDesk.undo()I -/
theorem C21 {iv : List (Int × Int)} {L : Nat} {h0 : MH} {d : Nat} {s : SC} {a0 : Nat} {F : Int → SC → Prop} (H : (kl s a0 = 1) ∧ (kl s (fR s a0 1) = 8) ∧ ((fI s (fR s a0 1) 7 ≠ 0 → ck iv L h0 d 220 [vr (fR s a0 1)] s (qv fun s3 => (kl s3 a0 = 1) ∧ ck iv L h0 d 52 [vr a0] s3 (qv fun s5 => (kl s5 a0 = 1) ∧ (kl s5 (fR s5 a0 1) = 8) ∧ F (fI s5 (fR s5 a0 1) 7) s5))) ∧ (fI s (fR s a0 1) 7 = 0 → F (-4) s))) : ck iv L h0 (d + 1) 21 [vr a0] s (qi F) := by
  show wk iv L h0 (d + 1) 21 0 [lr a0] [] s (qi F)
  refine w_aload_n rfl rfl ?_
  obtain ⟨g1, H⟩ := H
  refine c_getr rfl rfl rfl g1 ?_
  obtain ⟨g2, H⟩ := H
  refine c_get rfl rfl rfl g2 ?_
  refine w_if_ne rfl (fun h => ?_) (fun h => ?_)
  · replace H := H.1 h
    refine w_aload_n rfl rfl ?_
    refine c_getr rfl rfl rfl g1 ?_
    refine c_virt (p := (fR s a0 1)) (as := []) (r := []) rfl rfl rfl rfl rfl rfl g2 (wc_mono H (Nat.le_refl _) ?_)
    rintro _ s3 ⟨rfl, H⟩
    show wk iv L h0 (d + 1) 21 20 [lr a0] [] s3 (qi F)
    refine w_aload_n rfl rfl ?_
    obtain ⟨g4, H⟩ := H
    refine c_virt (p := a0) (as := []) (r := []) rfl rfl rfl rfl rfl rfl g4 (wc_mono H (Nat.le_refl _) ?_)
    rintro _ s5 ⟨rfl, H⟩
    show wk iv L h0 (d + 1) 21 24 [lr a0] [] s5 (qi F)
    refine w_aload_n rfl rfl ?_
    obtain ⟨g6, H⟩ := H
    refine c_getr rfl rfl rfl g6 ?_
    obtain ⟨g7, H⟩ := H
    refine c_get rfl rfl rfl g7 ?_
    exact w_iret rfl rfl ⟨_, rfl, H⟩
  · replace H := H.2 h
    refine w_bipush (n := (-4)) rfl rfl rfl ?_
    exact w_iret rfl rfl ⟨_, rfl, H⟩

/-- HoleDesk.offers()I -/
theorem C22 {iv : List (Int × Int)} {L : Nat} {h0 : MH} {d : Nat} {s : SC} {a0 : Nat} {F : Int → SC → Prop} (H : (kl s a0 = 1) ∧ (kl s (fR s a0 1) = 8) ∧ (kl s (fR s (fR s a0 1) 2) = 5) ∧ ((fI s (fR s (fR s a0 1) 2) 1 ≠ 0 → F (-4) s) ∧ (fI s (fR s (fR s a0 1) 2) 1 = 0 → ck iv L h0 d 57 [vr a0] s (qi fun r5 s4 => F r5 s4)))) : ck iv L h0 (d + 1) 22 [vr a0] s (qi F) := by
  show wk iv L h0 (d + 1) 22 0 [lr a0] [] s (qi F)
  refine w_aload_n rfl rfl ?_
  obtain ⟨g1, H⟩ := H
  refine c_getr rfl rfl rfl g1 ?_
  obtain ⟨g2, H⟩ := H
  refine c_getr rfl rfl rfl g2 ?_
  obtain ⟨g3, H⟩ := H
  refine c_get rfl rfl rfl g3 ?_
  refine w_if_ne rfl (fun h => ?_) (fun h => ?_)
  · replace H := H.1 h
    refine w_bipush (n := (-4)) rfl rfl rfl ?_
    exact w_iret rfl rfl ⟨_, rfl, H⟩
  · replace H := H.2 h
    refine w_aload_n rfl rfl ?_
    refine c_virt (p := a0) (as := []) (r := []) rfl rfl rfl rfl rfl rfl g1 (wc_mono H (Nat.le_refl _) ?_)
    rintro _ s4 ⟨r5, rfl, H⟩
    show wk iv L h0 (d + 1) 22 17 [lr a0] [vi r5] s4 (qi F)
    refine w_goto rfl ?_
    exact w_iret rfl rfl ⟨_, rfl, H⟩

/-- HoleDesk.offer(II)I -/
theorem C23 {iv : List (Int × Int)} {L : Nat} {h0 : MH} {d : Nat} {s : SC} {a0 : Nat} {a1 : Int} {a2 : Int} {F : Int → SC → Prop} (H : ((a2 = 0 → (kl s a0 = 1) ∧ (kl s (fR s a0 1) = 8) ∧ (kl s (fR s (fR s a0 1) 2) = 5) ∧ ((fI s (fR s (fR s a0 1) 2) 1 = 0 → ck iv L h0 d 57 [vr a0] s (qi fun r5 s4 => ((a1 < 0 → F (-9) s4) ∧ (0 ≤ a1 → ((a1 < r5 → ((a2 ≠ 0 → (kl s4 a0 = 1) ∧ (kl s4 (fR s4 a0 9) = 100) ∧ (0 ≤ a1 ∧ a1 < le s4 (fR s4 a0 9)) ∧ F (aI s4 (fR s4 a0 9) a1) s4) ∧ (a2 = 0 → (kl s4 a0 = 1) ∧ (kl s4 (fR s4 a0 8) = 100) ∧ (0 ≤ a1 ∧ a1 < le s4 (fR s4 a0 8)) ∧ F (aI s4 (fR s4 a0 8) a1) s4))) ∧ (r5 ≤ a1 → F (-9) s4)))))) ∧ (fI s (fR s (fR s a0 1) 2) 1 ≠ 0 → F (-4) s))) ∧ (a2 ≠ 0 → ((a2 = 1 → (kl s a0 = 1) ∧ (kl s (fR s a0 1) = 8) ∧ (kl s (fR s (fR s a0 1) 2) = 5) ∧ ((fI s (fR s (fR s a0 1) 2) 1 = 0 → ck iv L h0 d 57 [vr a0] s (qi fun r16 s15 => ((a1 < 0 → F (-9) s15) ∧ (0 ≤ a1 → ((a1 < r16 → ((a2 ≠ 0 → (kl s15 a0 = 1) ∧ (kl s15 (fR s15 a0 9) = 100) ∧ (0 ≤ a1 ∧ a1 < le s15 (fR s15 a0 9)) ∧ F (aI s15 (fR s15 a0 9) a1) s15) ∧ (a2 = 0 → (kl s15 a0 = 1) ∧ (kl s15 (fR s15 a0 8) = 100) ∧ (0 ≤ a1 ∧ a1 < le s15 (fR s15 a0 8)) ∧ F (aI s15 (fR s15 a0 8) a1) s15))) ∧ (r16 ≤ a1 → F (-9) s15)))))) ∧ (fI s (fR s (fR s a0 1) 2) 1 ≠ 0 → F (-4) s))) ∧ (a2 ≠ 1 → F (-1) s))))) : ck iv L h0 (d + 1) 23 [vr a0, vi a1, vi a2] s (qi F) := by
  show wk iv L h0 (d + 1) 23 0 [lr a0, li a1, li a2] [] s (qi F)
  refine w_iload_n rfl rfl ?_
  refine w_if_eq rfl (fun h => ?_) (fun h => ?_)
  · replace H := H.1 h
    refine w_aload_n rfl rfl ?_
    obtain ⟨g1, H⟩ := H
    refine c_getr rfl rfl rfl g1 ?_
    obtain ⟨g2, H⟩ := H
    refine c_getr rfl rfl rfl g2 ?_
    obtain ⟨g3, H⟩ := H
    refine c_get rfl rfl rfl g3 ?_
    refine w_if_eq rfl (fun h => ?_) (fun h => ?_)
    · replace H := H.1 h
      refine w_aload_n rfl rfl ?_
      refine c_virt (p := a0) (as := []) (r := []) rfl rfl rfl rfl rfl rfl g1 (wc_mono H (Nat.le_refl _) ?_)
      rintro _ s4 ⟨r5, rfl, H⟩
      show wk iv L h0 (d + 1) 23 31 [lr a0, li a1, li a2] [vi r5] s4 (qi F)
      refine w_istore_n rfl rfl ?_
      refine w_iload_n rfl rfl ?_
      refine w_if_lt rfl (fun h => ?_) (fun h => ?_)
      · replace H := H.1 h
        refine w_bipush (n := (-9)) rfl rfl rfl ?_
        exact w_iret rfl rfl ⟨_, rfl, H⟩
      · replace H := H.2 h
        refine w_iload_n rfl rfl ?_
        refine w_iload_n rfl rfl ?_
        refine w_icmp_lt rfl (fun h => ?_) (fun h => ?_)
        · replace H := H.1 h
          refine w_iload_n rfl rfl ?_
          refine w_if_ne rfl (fun h => ?_) (fun h => ?_)
          · replace H := H.1 h
            refine w_aload_n rfl rfl ?_
            obtain ⟨g6, H⟩ := H
            refine c_getr rfl rfl rfl g6 ?_
            refine w_iload_n rfl rfl ?_
            obtain ⟨g7, H⟩ := H
            obtain ⟨g8, H⟩ := H
            refine c_ald rfl g7 g8 ?_
            exact w_iret rfl rfl ⟨_, rfl, H⟩
          · replace H := H.2 h
            refine w_aload_n rfl rfl ?_
            obtain ⟨g9, H⟩ := H
            refine c_getr rfl rfl rfl g9 ?_
            refine w_iload_n rfl rfl ?_
            obtain ⟨g10, H⟩ := H
            obtain ⟨g11, H⟩ := H
            refine c_ald rfl g10 g11 ?_
            refine w_goto rfl ?_
            exact w_iret rfl rfl ⟨_, rfl, H⟩
        · replace H := H.2 h
          refine w_bipush (n := (-9)) rfl rfl rfl ?_
          exact w_iret rfl rfl ⟨_, rfl, H⟩
    · replace H := H.2 h
      refine w_bipush (n := (-4)) rfl rfl rfl ?_
      exact w_iret rfl rfl ⟨_, rfl, H⟩
  · replace H := H.2 h
    refine w_iload_n rfl rfl ?_
    refine w_iconst (n := 1) rfl rfl ?_
    refine w_icmp_eq rfl (fun h => ?_) (fun h => ?_)
    · replace H := H.1 h
      refine w_aload_n rfl rfl ?_
      obtain ⟨g12, H⟩ := H
      refine c_getr rfl rfl rfl g12 ?_
      obtain ⟨g13, H⟩ := H
      refine c_getr rfl rfl rfl g13 ?_
      obtain ⟨g14, H⟩ := H
      refine c_get rfl rfl rfl g14 ?_
      refine w_if_eq rfl (fun h => ?_) (fun h => ?_)
      · replace H := H.1 h
        refine w_aload_n rfl rfl ?_
        refine c_virt (p := a0) (as := []) (r := []) rfl rfl rfl rfl rfl rfl g12 (wc_mono H (Nat.le_refl _) ?_)
        rintro _ s15 ⟨r16, rfl, H⟩
        show wk iv L h0 (d + 1) 23 31 [lr a0, li a1, li a2] [vi r16] s15 (qi F)
        refine w_istore_n rfl rfl ?_
        refine w_iload_n rfl rfl ?_
        refine w_if_lt rfl (fun h => ?_) (fun h => ?_)
        · replace H := H.1 h
          refine w_bipush (n := (-9)) rfl rfl rfl ?_
          exact w_iret rfl rfl ⟨_, rfl, H⟩
        · replace H := H.2 h
          refine w_iload_n rfl rfl ?_
          refine w_iload_n rfl rfl ?_
          refine w_icmp_lt rfl (fun h => ?_) (fun h => ?_)
          · replace H := H.1 h
            refine w_iload_n rfl rfl ?_
            refine w_if_ne rfl (fun h => ?_) (fun h => ?_)
            · replace H := H.1 h
              refine w_aload_n rfl rfl ?_
              obtain ⟨g17, H⟩ := H
              refine c_getr rfl rfl rfl g17 ?_
              refine w_iload_n rfl rfl ?_
              obtain ⟨g18, H⟩ := H
              obtain ⟨g19, H⟩ := H
              refine c_ald rfl g18 g19 ?_
              exact w_iret rfl rfl ⟨_, rfl, H⟩
            · replace H := H.2 h
              refine w_aload_n rfl rfl ?_
              obtain ⟨g20, H⟩ := H
              refine c_getr rfl rfl rfl g20 ?_
              refine w_iload_n rfl rfl ?_
              obtain ⟨g21, H⟩ := H
              obtain ⟨g22, H⟩ := H
              refine c_ald rfl g21 g22 ?_
              refine w_goto rfl ?_
              exact w_iret rfl rfl ⟨_, rfl, H⟩
          · replace H := H.2 h
            refine w_bipush (n := (-9)) rfl rfl rfl ?_
            exact w_iret rfl rfl ⟨_, rfl, H⟩
      · replace H := H.2 h
        refine w_bipush (n := (-4)) rfl rfl rfl ?_
        exact w_iret rfl rfl ⟨_, rfl, H⟩
    · replace H := H.2 h
      refine w_iconst (n := (-1)) rfl rfl ?_
      exact w_iret rfl rfl ⟨_, rfl, H⟩

/-- HoleDesk.work(I)I -/
theorem C24 {iv : List (Int × Int)} {L : Nat} {h0 : MH} {d : Nat} {s : SC} {a0 : Nat} {a1 : Int} {F : Int → SC → Prop} (H : ck iv L h0 d 42 [vi a1] s (qi fun r2 s1 => ((r2 ≠ 0 → (kl s1 a0 = 1) ∧ (kl s1 (fR s1 a0 1) = 8) ∧ (kl s1 (fR s1 a0 3) = 11) ∧ ck iv L h0 d 227 [vr (fR s1 a0 3), vr (fR s1 (fR s1 a0 1) 1), vi a1] s1 (qi fun r7 s6 => (kl s6 a0 = 1) ∧ ck iv L h0 d 53 [vr a0, vi r7] s6 (qi fun r10 s9 => F r10 s9))) ∧ (r2 = 0 → F (-1) s1)))) : ck iv L h0 (d + 1) 24 [vr a0, vi a1] s (qi F) := by
  show wk iv L h0 (d + 1) 24 0 [lr a0, li a1] [] s (qi F)
  refine w_iload_n rfl rfl ?_
  refine w_static (as := [vi a1]) (r := []) rfl rfl rfl rfl rfl (wc_mono H (Nat.le_refl _) ?_)
  rintro _ s1 ⟨r2, rfl, H⟩
  show wk iv L h0 (d + 1) 24 4 [lr a0, li a1] [vi r2] s1 (qi F)
  refine w_if_ne rfl (fun h => ?_) (fun h => ?_)
  · replace H := H.1 h
    refine w_aload_n rfl rfl ?_
    refine w_aload_n rfl rfl ?_
    obtain ⟨g3, H⟩ := H
    refine c_getr rfl rfl rfl g3 ?_
    refine w_aload_n rfl rfl ?_
    refine c_getr rfl rfl rfl g3 ?_
    obtain ⟨g4, H⟩ := H
    refine c_getr rfl rfl rfl g4 ?_
    refine w_iload_n rfl rfl ?_
    obtain ⟨g5, H⟩ := H
    refine c_virt (p := (fR s1 a0 3)) (as := [vr (fR s1 (fR s1 a0 1) 1), vi a1]) (r := [vr a0]) rfl rfl rfl rfl rfl rfl g5 (wc_mono H (Nat.le_refl _) ?_)
    rintro _ s6 ⟨r7, rfl, H⟩
    show wk iv L h0 (d + 1) 24 25 [lr a0, li a1] [vi r7, vr a0] s6 (qi F)
    obtain ⟨g8, H⟩ := H
    refine c_virt (p := a0) (as := [vi r7]) (r := []) rfl rfl rfl rfl rfl rfl g8 (wc_mono H (Nat.le_refl _) ?_)
    rintro _ s9 ⟨r10, rfl, H⟩
    show wk iv L h0 (d + 1) 24 28 [lr a0, li a1] [vi r10] s9 (qi F)
    exact w_iret rfl rfl ⟨_, rfl, H⟩
  · replace H := H.2 h
    refine w_iconst (n := (-1)) rfl rfl ?_
    exact w_iret rfl rfl ⟨_, rfl, H⟩

/-- HoleDesk.resume(I)I -/
theorem C25 {iv : List (Int × Int)} {L : Nat} {h0 : MH} {d : Nat} {s : SC} {a0 : Nat} {a1 : Int} {F : Int → SC → Prop} (H : ck iv L h0 d 42 [vi a1] s (qi fun r2 s1 => ((r2 ≠ 0 → (kl s1 a0 = 1) ∧ (kl s1 (fR s1 a0 3) = 11) ∧ ((fR s1 (fR s1 a0 3) 6 = 2 → F (-4) s1) ∧ (fR s1 (fR s1 a0 3) 6 ≠ 2 → ((fI s1 a0 15 ≠ 0 → F (-4) s1) ∧ (fI s1 a0 15 = 0 → (kl s1 (fR s1 a0 1) = 8) ∧ ck iv L h0 d 218 [vr (fR s1 a0 1)] s1 (qi fun r7 s6 => ((r7 = 0 → (kl s6 a0 = 1) ∧ (kl s6 (fR s6 a0 3) = 11) ∧ ck iv L h0 d 228 [vr (fR s6 a0 3), vi a1] s6 (qi fun r11 s10 => (kl s10 a0 = 1) ∧ ck iv L h0 d 53 [vr a0, vi r11] s10 (qi fun r14 s13 => F r14 s13))) ∧ (r7 ≠ 0 → F (-4) s6)))))))) ∧ (r2 = 0 → F (-1) s1)))) : ck iv L h0 (d + 1) 25 [vr a0, vi a1] s (qi F) := by
  show wk iv L h0 (d + 1) 25 0 [lr a0, li a1] [] s (qi F)
  refine w_iload_n rfl rfl ?_
  refine w_static (as := [vi a1]) (r := []) rfl rfl rfl rfl rfl (wc_mono H (Nat.le_refl _) ?_)
  rintro _ s1 ⟨r2, rfl, H⟩
  show wk iv L h0 (d + 1) 25 4 [lr a0, li a1] [vi r2] s1 (qi F)
  refine w_if_ne rfl (fun h => ?_) (fun h => ?_)
  · replace H := H.1 h
    refine w_aload_n rfl rfl ?_
    obtain ⟨g3, H⟩ := H
    refine c_getr rfl rfl rfl g3 ?_
    obtain ⟨g4, H⟩ := H
    refine c_getr rfl rfl rfl g4 ?_
    refine c_null rfl (fun h => ?_) (fun h => ?_)
    · replace H := H.1 h
      refine w_bipush (n := (-4)) rfl rfl rfl ?_
      exact w_iret rfl rfl ⟨_, rfl, H⟩
    · replace H := H.2 h
      refine w_aload_n rfl rfl ?_
      refine c_get rfl rfl rfl g3 ?_
      refine w_if_ne rfl (fun h => ?_) (fun h => ?_)
      · replace H := H.1 h
        refine w_bipush (n := (-4)) rfl rfl rfl ?_
        exact w_iret rfl rfl ⟨_, rfl, H⟩
      · replace H := H.2 h
        refine w_aload_n rfl rfl ?_
        refine c_getr rfl rfl rfl g3 ?_
        obtain ⟨g5, H⟩ := H
        refine c_virt (p := (fR s1 a0 1)) (as := []) (r := []) rfl rfl rfl rfl rfl rfl g5 (wc_mono H (Nat.le_refl _) ?_)
        rintro _ s6 ⟨r7, rfl, H⟩
        show wk iv L h0 (d + 1) 25 33 [lr a0, li a1] [vi r7] s6 (qi F)
        refine w_if_eq rfl (fun h => ?_) (fun h => ?_)
        · replace H := H.1 h
          refine w_aload_n rfl rfl ?_
          refine w_aload_n rfl rfl ?_
          obtain ⟨g8, H⟩ := H
          refine c_getr rfl rfl rfl g8 ?_
          refine w_iload_n rfl rfl ?_
          obtain ⟨g9, H⟩ := H
          refine c_virt (p := (fR s6 a0 3)) (as := [vi a1]) (r := [vr a0]) rfl rfl rfl rfl rfl rfl g9 (wc_mono H (Nat.le_refl _) ?_)
          rintro _ s10 ⟨r11, rfl, H⟩
          show wk iv L h0 (d + 1) 25 48 [lr a0, li a1] [vi r11, vr a0] s10 (qi F)
          obtain ⟨g12, H⟩ := H
          refine c_virt (p := a0) (as := [vi r11]) (r := []) rfl rfl rfl rfl rfl rfl g12 (wc_mono H (Nat.le_refl _) ?_)
          rintro _ s13 ⟨r14, rfl, H⟩
          show wk iv L h0 (d + 1) 25 51 [lr a0, li a1] [vi r14] s13 (qi F)
          exact w_iret rfl rfl ⟨_, rfl, H⟩
        · replace H := H.2 h
          refine w_bipush (n := (-4)) rfl rfl rfl ?_
          exact w_iret rfl rfl ⟨_, rfl, H⟩
  · replace H := H.2 h
    refine w_iconst (n := (-1)) rfl rfl ?_
    exact w_iret rfl rfl ⟨_, rfl, H⟩

/-- HoleDesk.steps()I -/
theorem C26 {iv : List (Int × Int)} {L : Nat} {h0 : MH} {d : Nat} {s : SC} {a0 : Nat} {F : Int → SC → Prop} (H : (kl s a0 = 1) ∧ (kl s (fR s a0 3) = 11) ∧ F (fI s (fR s a0 3) 3) s) : ck iv L h0 d 26 [vr a0] s (qi F) := by
  show wk iv L h0 d 26 0 [lr a0] [] s (qi F)
  refine w_aload_n rfl rfl ?_
  obtain ⟨g1, H⟩ := H
  refine c_getr rfl rfl rfl g1 ?_
  obtain ⟨g2, H⟩ := H
  refine c_get rfl rfl rfl g2 ?_
  exact w_iret rfl rfl ⟨_, rfl, H⟩

/-- HoleDesk.where()I -/
theorem C27 {iv : List (Int × Int)} {L : Nat} {h0 : MH} {d : Nat} {s : SC} {a0 : Nat} {F : Int → SC → Prop} (H : (kl s a0 = 1) ∧ (kl s (fR s a0 3) = 11) ∧ F (fI s (fR s a0 3) 5) s) : ck iv L h0 d 27 [vr a0] s (qi F) := by
  show wk iv L h0 d 27 0 [lr a0] [] s (qi F)
  refine w_aload_n rfl rfl ?_
  obtain ⟨g1, H⟩ := H
  refine c_getr rfl rfl rfl g1 ?_
  obtain ⟨g2, H⟩ := H
  refine c_get rfl rfl rfl g2 ?_
  exact w_iret rfl rfl ⟨_, rfl, H⟩

/-- HoleDesk.value(I)I -/
theorem C28 {iv : List (Int × Int)} {L : Nat} {h0 : MH} {d : Nat} {s : SC} {a0 : Nat} {a1 : Int} {F : Int → SC → Prop} (H : (kl s a0 = 1) ∧ (kl s (fR s a0 3) = 11) ∧ ((fR s (fR s a0 3) 6 ≠ 2 → (kl s (fR s a0 4) = 12) ∧ ck iv L h0 d 246 [vr (fR s a0 4), vi a1] s (qi fun r5 s4 => F r5 s4)) ∧ (fR s (fR s a0 3) 6 = 2 → F (-9) s))) : ck iv L h0 (d + 1) 28 [vr a0, vi a1] s (qi F) := by
  show wk iv L h0 (d + 1) 28 0 [lr a0, li a1] [] s (qi F)
  refine w_aload_n rfl rfl ?_
  obtain ⟨g1, H⟩ := H
  refine c_getr rfl rfl rfl g1 ?_
  obtain ⟨g2, H⟩ := H
  refine c_getr rfl rfl rfl g2 ?_
  refine c_nonnull rfl (fun h => ?_) (fun h => ?_)
  · replace H := H.1 h
    refine w_aload_n rfl rfl ?_
    refine c_getr rfl rfl rfl g1 ?_
    refine w_iload_n rfl rfl ?_
    obtain ⟨g3, H⟩ := H
    refine c_virt (p := (fR s a0 4)) (as := [vi a1]) (r := []) rfl rfl rfl rfl rfl rfl g3 (wc_mono H (Nat.le_refl _) ?_)
    rintro _ s4 ⟨r5, rfl, H⟩
    show wk iv L h0 (d + 1) 28 23 [lr a0, li a1] [vi r5] s4 (qi F)
    exact w_iret rfl rfl ⟨_, rfl, H⟩
  · replace H := H.2 h
    refine w_bipush (n := (-9)) rfl rfl rfl ?_
    refine w_goto rfl ?_
    exact w_iret rfl rfl ⟨_, rfl, H⟩

/-- HoleDesk.left(I)I -/
theorem C29 {iv : List (Int × Int)} {L : Nat} {h0 : MH} {d : Nat} {s : SC} {a0 : Nat} {a1 : Int} {F : Int → SC → Prop} (H : (kl s a0 = 1) ∧ ck iv L h0 d 54 [vr a0, vi a1] s (qa fun r3 s2 => ((r3 ≠ 2 → (kl s2 r3 = 10) ∧ (kl s2 (fR s2 r3 2) = 5) ∧ F (fI s2 (fR s2 r3 2) 0) s2) ∧ (r3 = 2 → F (-9) s2)))) : ck iv L h0 (d + 1) 29 [vr a0, vi a1] s (qi F) := by
  show wk iv L h0 (d + 1) 29 0 [lr a0, li a1] [] s (qi F)
  refine w_aload_n rfl rfl ?_
  refine w_iload_n rfl rfl ?_
  obtain ⟨g1, H⟩ := H
  refine c_virt (p := a0) (as := [vi a1]) (r := []) rfl rfl rfl rfl rfl rfl g1 (wc_mono H (Nat.le_refl _) ?_)
  rintro _ s2 ⟨r3, rfl, H⟩
  show wk iv L h0 (d + 1) 29 5 [lr a0, li a1] [vr r3] s2 (qi F)
  refine w_astore_n rfl rfl ?_
  refine w_aload_n rfl rfl ?_
  refine c_nonnull rfl (fun h => ?_) (fun h => ?_)
  · replace H := H.1 h
    refine w_aload_n rfl rfl ?_
    obtain ⟨g4, H⟩ := H
    refine c_getr rfl rfl rfl g4 ?_
    obtain ⟨g5, H⟩ := H
    refine c_get rfl rfl rfl g5 ?_
    exact w_iret rfl rfl ⟨_, rfl, H⟩
  · replace H := H.2 h
    refine w_bipush (n := (-9)) rfl rfl rfl ?_
    refine w_goto rfl ?_
    exact w_iret rfl rfl ⟨_, rfl, H⟩

/-- HoleDesk.seen(III)I -/
theorem C30 {iv : List (Int × Int)} {L : Nat} {h0 : MH} {d : Nat} {s : SC} {a0 : Nat} {a1 : Int} {a2 : Int} {a3 : Int} {F : Int → SC → Prop} (H : ck iv L h0 d 40 [vi a2] s (qi fun r2 s1 => ((r2 ≠ 0 → (kl s1 a0 = 1) ∧ ck iv L h0 d 54 [vr a0, vi a1] s1 (qa fun r5 s4 => ((r5 ≠ 2 → (kl s4 a0 = 1) ∧ (kl s4 r5 = 10) ∧ (kl s4 (fR s4 a0 3) = 11) ∧ ck iv L h0 d 229 [vr (fR s4 a0 3), vr (fR s4 r5 5), vi a2] s4 (qa fun r10 s9 => ((r10 ≠ 2 → (kl s9 a0 = 1) ∧ (kl s9 (fR s9 a0 5) = 12) ∧ ck iv L h0 d 247 [vr (fR s9 a0 5), vr r10] s9 (qv fun s13 => (kl s13 a0 = 1) ∧ (kl s13 (fR s13 a0 5) = 12) ∧ ck iv L h0 d 246 [vr (fR s13 a0 5), vi a3] s13 (qi fun r17 s16 => F r17 s16))) ∧ (r10 = 2 → F (-9) s9)))) ∧ (r5 = 2 → F (-9) s4)))) ∧ (r2 = 0 → F (-1) s1)))) : ck iv L h0 (d + 1) 30 [vr a0, vi a1, vi a2, vi a3] s (qi F) := by
  show wk iv L h0 (d + 1) 30 0 [lr a0, li a1, li a2, li a3] [] s (qi F)
  refine w_iload_n rfl rfl ?_
  refine w_static (as := [vi a2]) (r := []) rfl rfl rfl rfl rfl (wc_mono H (Nat.le_refl _) ?_)
  rintro _ s1 ⟨r2, rfl, H⟩
  show wk iv L h0 (d + 1) 30 4 [lr a0, li a1, li a2, li a3] [vi r2] s1 (qi F)
  refine w_if_ne rfl (fun h => ?_) (fun h => ?_)
  · replace H := H.1 h
    refine w_aload_n rfl rfl ?_
    refine w_iload_n rfl rfl ?_
    obtain ⟨g3, H⟩ := H
    refine c_virt (p := a0) (as := [vi a1]) (r := []) rfl rfl rfl rfl rfl rfl g3 (wc_mono H (Nat.le_refl _) ?_)
    rintro _ s4 ⟨r5, rfl, H⟩
    show wk iv L h0 (d + 1) 30 14 [lr a0, li a1, li a2, li a3] [vr r5] s4 (qi F)
    refine w_astore rfl rfl ?_
    refine w_aload rfl rfl ?_
    refine c_nonnull rfl (fun h => ?_) (fun h => ?_)
    · replace H := H.1 h
      refine w_aload_n rfl rfl ?_
      obtain ⟨g6, H⟩ := H
      refine c_getr rfl rfl rfl g6 ?_
      refine w_aload rfl rfl ?_
      obtain ⟨g7, H⟩ := H
      refine c_getr rfl rfl rfl g7 ?_
      refine w_iload_n rfl rfl ?_
      obtain ⟨g8, H⟩ := H
      refine c_virt (p := (fR s4 a0 3)) (as := [vr (fR s4 r5 5), vi a2]) (r := []) rfl rfl rfl rfl rfl rfl g8 (wc_mono H (Nat.le_refl _) ?_)
      rintro _ s9 ⟨r10, rfl, H⟩
      show wk iv L h0 (d + 1) 30 38 [lr a0, li a1, li a2, li a3, lr r5] [vr r10] s9 (qi F)
      refine w_astore rfl rfl ?_
      refine w_aload rfl rfl ?_
      refine c_nonnull rfl (fun h => ?_) (fun h => ?_)
      · replace H := H.1 h
        refine w_aload_n rfl rfl ?_
        obtain ⟨g11, H⟩ := H
        refine c_getr rfl rfl rfl g11 ?_
        refine w_aload rfl rfl ?_
        obtain ⟨g12, H⟩ := H
        refine c_virt (p := (fR s9 a0 5)) (as := [vr r10]) (r := []) rfl rfl rfl rfl rfl rfl g12 (wc_mono H (Nat.le_refl _) ?_)
        rintro _ s13 ⟨rfl, H⟩
        show wk iv L h0 (d + 1) 30 57 [lr a0, li a1, li a2, li a3, lr r5, lr r10] [] s13 (qi F)
        refine w_aload_n rfl rfl ?_
        obtain ⟨g14, H⟩ := H
        refine c_getr rfl rfl rfl g14 ?_
        refine w_iload_n rfl rfl ?_
        obtain ⟨g15, H⟩ := H
        refine c_virt (p := (fR s13 a0 5)) (as := [vi a3]) (r := []) rfl rfl rfl rfl rfl rfl g15 (wc_mono H (Nat.le_refl _) ?_)
        rintro _ s16 ⟨r17, rfl, H⟩
        show wk iv L h0 (d + 1) 30 65 [lr a0, li a1, li a2, li a3, lr r5, lr r10] [vi r17] s16 (qi F)
        exact w_iret rfl rfl ⟨_, rfl, H⟩
      · replace H := H.2 h
        refine w_bipush (n := (-9)) rfl rfl rfl ?_
        exact w_iret rfl rfl ⟨_, rfl, H⟩
    · replace H := H.2 h
      refine w_null rfl ?_
      refine w_goto rfl ?_
      refine w_astore rfl rfl ?_
      refine w_aload rfl rfl ?_
      refine c_nonnull rfl (fun h => absurd h (by decide)) (fun _ => ?_)
      refine w_bipush (n := (-9)) rfl rfl rfl ?_
      exact w_iret rfl rfl ⟨_, rfl, H⟩
  · replace H := H.2 h
    refine w_iconst (n := (-1)) rfl rfl ?_
    exact w_iret rfl rfl ⟨_, rfl, H⟩

/-- HoleDesk.box(I)I -/
theorem C31 {iv : List (Int × Int)} {L : Nat} {h0 : MH} {d : Nat} {s : SC} {a0 : Nat} {a1 : Int} {F : Int → SC → Prop} (H : ((a1 ≤ 8 → ((0 ≤ a1 → wk iv L h0 (d + 1) 31 20 [lr a0, li a1, li 0] [] s (qi F)) ∧ (a1 < 0 → (kl s a0 = 1) ∧ ck iv L h0 d 47 [vr a0, vi 5] s (qi fun r3 s2 => F r3 s2)))) ∧ (8 < a1 → F (-1) s))) : ck iv L h0 (d + 1) 31 [vr a0, vi a1] s (qi F) := by
  show wk iv L h0 (d + 1) 31 0 [lr a0, li a1] [] s (qi F)
  refine w_iload_n rfl rfl ?_
  refine w_bipush (n := 8) rfl rfl rfl ?_
  refine w_icmp_le rfl (fun h => ?_) (fun h => ?_)
  · replace H := H.1 h
    refine w_iload_n rfl rfl ?_
    refine w_if_ge rfl (fun h => ?_) (fun h => ?_)
    · replace H := H.1 h
      refine w_iconst (n := 0) rfl rfl ?_
      refine w_istore_n rfl rfl ?_
      exact wp_ls (sl_s (sl_s (sl_s (sl_0)))) H
    · replace H := H.2 h
      refine w_aload_n rfl rfl ?_
      refine w_iconst (n := 5) rfl rfl ?_
      obtain ⟨g1, H⟩ := H
      refine c_virt (p := a0) (as := [vi 5]) (r := []) rfl rfl rfl rfl rfl rfl g1 (wc_mono H (Nat.le_refl _) ?_)
      rintro _ s2 ⟨r3, rfl, H⟩
      show wk iv L h0 (d + 1) 31 17 [lr a0, li a1] [vi r3] s2 (qi F)
      exact w_iret rfl rfl ⟨_, rfl, H⟩
  · replace H := H.2 h
    refine w_iconst (n := (-1)) rfl rfl ?_
    exact w_iret rfl rfl ⟨_, rfl, H⟩

/-- HoleDesk.box(I)I at 20 -/
theorem C31_20 {iv : List (Int × Int)} {L : Nat} {h0 : MH} {d : Nat} {s : SC} {l0 : Nat} {l1 : Int} {l2 : Int} {F : Int → SC → Prop} (H : ((8 ≤ l2 → (kl s l0 = 1) ∧ F l1 (uI s l0 12 l1)) ∧ (l2 < 8 → (kl s l0 = 1) ∧ (kl s (fR s l0 10) = 103) ∧ (0 ≤ l2 ∧ l2 < le s (fR s l0 10)) ∧ (-2147483648 ≤ l2 + 1 ∧ l2 + 1 ≤ 2147483647) ∧ wk iv L h0 (d + 1) 31 20 [lr l0, li l1, li (l2 + 1)] [] (uB s (fR s l0 10) l2 2) (qi F)))) : wk iv L h0 (d + 1) 31 20 [lr l0, li l1, li l2] [] s (qi F) := by
  refine w_iload_n rfl rfl ?_
  refine w_bipush (n := 8) rfl rfl rfl ?_
  refine w_icmp_ge rfl (fun h => ?_) (fun h => ?_)
  · replace H := H.1 h
    refine w_aload_n rfl rfl ?_
    refine w_iload_n rfl rfl ?_
    obtain ⟨g1, H⟩ := H
    refine c_put rfl rfl rfl rfl g1 ?_
    refine w_iload_n rfl rfl ?_
    exact w_iret rfl rfl ⟨_, rfl, H⟩
  · replace H := H.2 h
    refine w_aload_n rfl rfl ?_
    obtain ⟨g2, H⟩ := H
    refine c_getr rfl rfl rfl g2 ?_
    refine w_iload_n rfl rfl ?_
    refine w_null rfl ?_
    obtain ⟨g3, H⟩ := H
    obtain ⟨g4, H⟩ := H
    refine c_aast rfl rfl g3 g4 (Or.inl rfl) ?_
    obtain ⟨g5, H⟩ := H
    refine w_iinc rfl rfl rfl g5 ?_
    refine w_goto rfl ?_
    exact wp_ls (sl_s (sl_s (sl_s (sl_0)))) H

/-- HoleDesk.keep(II)I -/
theorem C32 {iv : List (Int × Int)} {L : Nat} {h0 : MH} {d : Nat} {s : SC} {a0 : Nat} {a1 : Int} {a2 : Int} {F : Int → SC → Prop} (H : (kl s a0 = 1) ∧ (kl s (fR s a0 1) = 8) ∧ ck iv L h0 d 207 [vr (fR s a0 1), vi a2] s (qa fun r4 s3 => ((r4 ≠ 2 → (kl s3 a0 = 1) ∧ ck iv L h0 d 46 [vr a0, vi a1] s3 (qi fun r7 s6 => ((r7 ≠ 0 → (kl s6 a0 = 1) ∧ (kl s6 (fR s6 a0 10) = 103) ∧ (0 ≤ a1 ∧ a1 < le s6 (fR s6 a0 10)) ∧ (r4 = 2 ∨ kl s6 r4 = 5) ∧ F 1 (uB s6 (fR s6 a0 10) a1 r4)) ∧ (r7 = 0 → (kl s6 a0 = 1) ∧ ck iv L h0 d 47 [vr a0, vi 2] s6 (qi fun r14 s13 => F r14 s13))))) ∧ (r4 = 2 → F (-1) s3)))) : ck iv L h0 (d + 1) 32 [vr a0, vi a1, vi a2] s (qi F) := by
  show wk iv L h0 (d + 1) 32 0 [lr a0, li a1, li a2] [] s (qi F)
  refine w_aload_n rfl rfl ?_
  obtain ⟨g1, H⟩ := H
  refine c_getr rfl rfl rfl g1 ?_
  refine w_iload_n rfl rfl ?_
  obtain ⟨g2, H⟩ := H
  refine c_virt (p := (fR s a0 1)) (as := [vi a2]) (r := []) rfl rfl rfl rfl rfl rfl g2 (wc_mono H (Nat.le_refl _) ?_)
  rintro _ s3 ⟨r4, rfl, H⟩
  show wk iv L h0 (d + 1) 32 8 [lr a0, li a1, li a2] [vr r4] s3 (qi F)
  refine w_astore_n rfl rfl ?_
  refine w_aload_n rfl rfl ?_
  refine c_nonnull rfl (fun h => ?_) (fun h => ?_)
  · replace H := H.1 h
    refine w_aload_n rfl rfl ?_
    refine w_iload_n rfl rfl ?_
    obtain ⟨g5, H⟩ := H
    refine c_virt (p := a0) (as := [vi a1]) (r := []) rfl rfl rfl rfl rfl rfl g5 (wc_mono H (Nat.le_refl _) ?_)
    rintro _ s6 ⟨r7, rfl, H⟩
    show wk iv L h0 (d + 1) 32 20 [lr a0, li a1, li a2, lr r4] [vi r7] s6 (qi F)
    refine w_if_ne rfl (fun h => ?_) (fun h => ?_)
    · replace H := H.1 h
      refine w_aload_n rfl rfl ?_
      obtain ⟨g8, H⟩ := H
      refine c_getr rfl rfl rfl g8 ?_
      refine w_iload_n rfl rfl ?_
      refine w_aload_n rfl rfl ?_
      obtain ⟨g9, H⟩ := H
      obtain ⟨g10, H⟩ := H
      obtain ⟨g11, H⟩ := H
      refine c_aast rfl rfl g9 g10 (by rcases g11 with e | e; exact Or.inl e; exact Or.inr ⟨e, by decide⟩) ?_
      refine w_iconst (n := 1) rfl rfl ?_
      exact w_iret rfl rfl ⟨_, rfl, H⟩
    · replace H := H.2 h
      refine w_aload_n rfl rfl ?_
      refine w_iconst (n := 2) rfl rfl ?_
      obtain ⟨g12, H⟩ := H
      refine c_virt (p := a0) (as := [vi 2]) (r := []) rfl rfl rfl rfl rfl rfl g12 (wc_mono H (Nat.le_refl _) ?_)
      rintro _ s13 ⟨r14, rfl, H⟩
      show wk iv L h0 (d + 1) 32 28 [lr a0, li a1, li a2, lr r4] [vi r14] s13 (qi F)
      exact w_iret rfl rfl ⟨_, rfl, H⟩
  · replace H := H.2 h
    refine w_iconst (n := (-1)) rfl rfl ?_
    exact w_iret rfl rfl ⟨_, rfl, H⟩

/-- HoleDesk.boxed(II)I -/
theorem C33 {iv : List (Int × Int)} {L : Nat} {h0 : MH} {d : Nat} {s : SC} {a0 : Nat} {a1 : Int} {a2 : Int} {F : Int → SC → Prop} (H : ((a2 = 1 → (kl s a0 = 1) ∧ ck iv L h0 d 46 [vr a0, vi a1] s (qi fun r3 s2 => ((r3 ≠ 0 → (kl s2 a0 = 1) ∧ (kl s2 (fR s2 a0 10) = 103) ∧ (0 ≤ a1 ∧ a1 < le s2 (fR s2 a0 10)) ∧ ((aR s2 (fR s2 a0 10) a1 ≠ 2 → (kl s2 (aR s2 (fR s2 a0 10) a1) = 5) ∧ ((fI s2 (aR s2 (fR s2 a0 10) a1) 1 = a2 → F 1 (uI s2 a0 13 (fI s2 (aR s2 (fR s2 a0 10) a1) 4))) ∧ (fI s2 (aR s2 (fR s2 a0 10) a1) 1 ≠ a2 → ck iv L h0 d 47 [vr a0, vi 3] s2 (qi fun r9 s8 => F r9 s8)))) ∧ (aR s2 (fR s2 a0 10) a1 = 2 → ck iv L h0 d 47 [vr a0, vi 1] s2 (qi fun r11 s10 => F r11 s10)))) ∧ (r3 = 0 → (kl s2 a0 = 1) ∧ ck iv L h0 d 47 [vr a0, vi 2] s2 (qi fun r14 s13 => F r14 s13))))) ∧ (a2 ≠ 1 → ((a2 = 3 → (kl s a0 = 1) ∧ ck iv L h0 d 46 [vr a0, vi a1] s (qi fun r17 s16 => ((r17 ≠ 0 → (kl s16 a0 = 1) ∧ (kl s16 (fR s16 a0 10) = 103) ∧ (0 ≤ a1 ∧ a1 < le s16 (fR s16 a0 10)) ∧ ((aR s16 (fR s16 a0 10) a1 ≠ 2 → (kl s16 (aR s16 (fR s16 a0 10) a1) = 5) ∧ ((fI s16 (aR s16 (fR s16 a0 10) a1) 1 = a2 → F 1 (uI s16 a0 13 (fI s16 (aR s16 (fR s16 a0 10) a1) 4))) ∧ (fI s16 (aR s16 (fR s16 a0 10) a1) 1 ≠ a2 → ck iv L h0 d 47 [vr a0, vi 3] s16 (qi fun r23 s22 => F r23 s22)))) ∧ (aR s16 (fR s16 a0 10) a1 = 2 → ck iv L h0 d 47 [vr a0, vi 1] s16 (qi fun r25 s24 => F r25 s24)))) ∧ (r17 = 0 → (kl s16 a0 = 1) ∧ ck iv L h0 d 47 [vr a0, vi 2] s16 (qi fun r28 s27 => F r28 s27))))) ∧ (a2 ≠ 3 → F (-1) s))))) : ck iv L h0 (d + 1) 33 [vr a0, vi a1, vi a2] s (qi F) := by
  show wk iv L h0 (d + 1) 33 0 [lr a0, li a1, li a2] [] s (qi F)
  refine w_iload_n rfl rfl ?_
  refine w_iconst (n := 1) rfl rfl ?_
  refine w_icmp_eq rfl (fun h => ?_) (fun h => ?_)
  · replace H := H.1 h
    refine w_aload_n rfl rfl ?_
    refine w_iload_n rfl rfl ?_
    obtain ⟨g1, H⟩ := H
    refine c_virt (p := a0) (as := [vi a1]) (r := []) rfl rfl rfl rfl rfl rfl g1 (wc_mono H (Nat.le_refl _) ?_)
    rintro _ s2 ⟨r3, rfl, H⟩
    show wk iv L h0 (d + 1) 33 17 [lr a0, li a1, li a2] [vi r3] s2 (qi F)
    refine w_if_ne rfl (fun h => ?_) (fun h => ?_)
    · replace H := H.1 h
      refine w_aload_n rfl rfl ?_
      obtain ⟨g4, H⟩ := H
      refine c_getr rfl rfl rfl g4 ?_
      refine w_iload_n rfl rfl ?_
      obtain ⟨g5, H⟩ := H
      obtain ⟨g6, H⟩ := H
      refine c_aald (t := 3) rfl ⟨g5, by decide, by decide⟩ g6 ?_
      refine w_astore_n rfl rfl ?_
      refine w_aload_n rfl rfl ?_
      refine c_nonnull rfl (fun h => ?_) (fun h => ?_)
      · replace H := H.1 h
        refine w_aload_n rfl rfl ?_
        obtain ⟨g7, H⟩ := H
        refine c_get rfl rfl rfl g7 ?_
        refine w_iload_n rfl rfl ?_
        refine w_icmp_eq rfl (fun h => ?_) (fun h => ?_)
        · replace H := H.1 h
          refine w_aload_n rfl rfl ?_
          refine w_aload_n rfl rfl ?_
          refine c_get rfl rfl rfl g7 ?_
          refine c_put rfl rfl rfl rfl g4 ?_
          refine w_iconst (n := 1) rfl rfl ?_
          exact w_iret rfl rfl ⟨_, rfl, H⟩
        · replace H := H.2 h
          refine w_aload_n rfl rfl ?_
          refine w_iconst (n := 3) rfl rfl ?_
          refine c_virt (p := a0) (as := [vi 3]) (r := []) rfl rfl rfl rfl rfl rfl g4 (wc_mono H (Nat.le_refl _) ?_)
          rintro _ s8 ⟨r9, rfl, H⟩
          show wk iv L h0 (d + 1) 33 56 [lr a0, li a1, li a2, lr (aR s2 (fR s2 a0 10) a1)] [vi r9] s8 (qi F)
          exact w_iret rfl rfl ⟨_, rfl, H⟩
      · replace H := H.2 h
        refine w_aload_n rfl rfl ?_
        refine w_iconst (n := 1) rfl rfl ?_
        refine c_virt (p := a0) (as := [vi 1]) (r := []) rfl rfl rfl rfl rfl rfl g4 (wc_mono H (Nat.le_refl _) ?_)
        rintro _ s10 ⟨r11, rfl, H⟩
        show wk iv L h0 (d + 1) 33 42 [lr a0, li a1, li a2, lr (aR s2 (fR s2 a0 10) a1)] [vi r11] s10 (qi F)
        exact w_iret rfl rfl ⟨_, rfl, H⟩
    · replace H := H.2 h
      refine w_aload_n rfl rfl ?_
      refine w_iconst (n := 2) rfl rfl ?_
      obtain ⟨g12, H⟩ := H
      refine c_virt (p := a0) (as := [vi 2]) (r := []) rfl rfl rfl rfl rfl rfl g12 (wc_mono H (Nat.le_refl _) ?_)
      rintro _ s13 ⟨r14, rfl, H⟩
      show wk iv L h0 (d + 1) 33 25 [lr a0, li a1, li a2] [vi r14] s13 (qi F)
      exact w_iret rfl rfl ⟨_, rfl, H⟩
  · replace H := H.2 h
    refine w_iload_n rfl rfl ?_
    refine w_iconst (n := 3) rfl rfl ?_
    refine w_icmp_eq rfl (fun h => ?_) (fun h => ?_)
    · replace H := H.1 h
      refine w_aload_n rfl rfl ?_
      refine w_iload_n rfl rfl ?_
      obtain ⟨g15, H⟩ := H
      refine c_virt (p := a0) (as := [vi a1]) (r := []) rfl rfl rfl rfl rfl rfl g15 (wc_mono H (Nat.le_refl _) ?_)
      rintro _ s16 ⟨r17, rfl, H⟩
      show wk iv L h0 (d + 1) 33 17 [lr a0, li a1, li a2] [vi r17] s16 (qi F)
      refine w_if_ne rfl (fun h => ?_) (fun h => ?_)
      · replace H := H.1 h
        refine w_aload_n rfl rfl ?_
        obtain ⟨g18, H⟩ := H
        refine c_getr rfl rfl rfl g18 ?_
        refine w_iload_n rfl rfl ?_
        obtain ⟨g19, H⟩ := H
        obtain ⟨g20, H⟩ := H
        refine c_aald (t := 3) rfl ⟨g19, by decide, by decide⟩ g20 ?_
        refine w_astore_n rfl rfl ?_
        refine w_aload_n rfl rfl ?_
        refine c_nonnull rfl (fun h => ?_) (fun h => ?_)
        · replace H := H.1 h
          refine w_aload_n rfl rfl ?_
          obtain ⟨g21, H⟩ := H
          refine c_get rfl rfl rfl g21 ?_
          refine w_iload_n rfl rfl ?_
          refine w_icmp_eq rfl (fun h => ?_) (fun h => ?_)
          · replace H := H.1 h
            refine w_aload_n rfl rfl ?_
            refine w_aload_n rfl rfl ?_
            refine c_get rfl rfl rfl g21 ?_
            refine c_put rfl rfl rfl rfl g18 ?_
            refine w_iconst (n := 1) rfl rfl ?_
            exact w_iret rfl rfl ⟨_, rfl, H⟩
          · replace H := H.2 h
            refine w_aload_n rfl rfl ?_
            refine w_iconst (n := 3) rfl rfl ?_
            refine c_virt (p := a0) (as := [vi 3]) (r := []) rfl rfl rfl rfl rfl rfl g18 (wc_mono H (Nat.le_refl _) ?_)
            rintro _ s22 ⟨r23, rfl, H⟩
            show wk iv L h0 (d + 1) 33 56 [lr a0, li a1, li a2, lr (aR s16 (fR s16 a0 10) a1)] [vi r23] s22 (qi F)
            exact w_iret rfl rfl ⟨_, rfl, H⟩
        · replace H := H.2 h
          refine w_aload_n rfl rfl ?_
          refine w_iconst (n := 1) rfl rfl ?_
          refine c_virt (p := a0) (as := [vi 1]) (r := []) rfl rfl rfl rfl rfl rfl g18 (wc_mono H (Nat.le_refl _) ?_)
          rintro _ s24 ⟨r25, rfl, H⟩
          show wk iv L h0 (d + 1) 33 42 [lr a0, li a1, li a2, lr (aR s16 (fR s16 a0 10) a1)] [vi r25] s24 (qi F)
          exact w_iret rfl rfl ⟨_, rfl, H⟩
      · replace H := H.2 h
        refine w_aload_n rfl rfl ?_
        refine w_iconst (n := 2) rfl rfl ?_
        obtain ⟨g26, H⟩ := H
        refine c_virt (p := a0) (as := [vi 2]) (r := []) rfl rfl rfl rfl rfl rfl g26 (wc_mono H (Nat.le_refl _) ?_)
        rintro _ s27 ⟨r28, rfl, H⟩
        show wk iv L h0 (d + 1) 33 25 [lr a0, li a1, li a2] [vi r28] s27 (qi F)
        exact w_iret rfl rfl ⟨_, rfl, H⟩
    · replace H := H.2 h
      refine w_iconst (n := (-1)) rfl rfl ?_
      exact w_iret rfl rfl ⟨_, rfl, H⟩

/-- HoleDesk.share(II)I -/
theorem C34 {iv : List (Int × Int)} {L : Nat} {h0 : MH} {d : Nat} {s : SC} {a0 : Nat} {a1 : Int} {a2 : Int} {F : Int → SC → Prop} (H : (kl s a0 = 1) ∧ ck iv L h0 d 46 [vr a0, vi a1] s (qi fun r3 s2 => ((r3 = 0 → (kl s2 a0 = 1) ∧ ck iv L h0 d 47 [vr a0, vi 2] s2 (qi fun r6 s5 => F r6 s5)) ∧ (r3 ≠ 0 → (kl s2 a0 = 1) ∧ ck iv L h0 d 46 [vr a0, vi a2] s2 (qi fun r9 s8 => ((r9 ≠ 0 → (kl s8 a0 = 1) ∧ (kl s8 (fR s8 a0 10) = 103) ∧ (0 ≤ a1 ∧ a1 < le s8 (fR s8 a0 10)) ∧ (0 ≤ a2 ∧ a2 < le s8 (fR s8 a0 10)) ∧ ((aR s8 (fR s8 a0 10) a1 = 2 → ck iv L h0 d 47 [vr a0, vi 1] s8 (qi fun r15 s14 => F r15 s14)) ∧ (aR s8 (fR s8 a0 10) a1 ≠ 2 → ((aR s8 (fR s8 a0 10) a2 ≠ 2 → (kl s8 (aR s8 (fR s8 a0 10) a1) = 5) ∧ ((fI s8 (aR s8 (fR s8 a0 10) a1) 1 ≠ 1 → ck iv L h0 d 47 [vr a0, vi 3] s8 (qi fun r18 s17 => F r18 s17)) ∧ (fI s8 (aR s8 (fR s8 a0 10) a1) 1 = 1 → (kl s8 (aR s8 (fR s8 a0 10) a2) = 5) ∧ ((fI s8 (aR s8 (fR s8 a0 10) a2) 1 = 1 → ((fI s8 (aR s8 (fR s8 a0 10) a2) 4 ≠ 0 → (inL (1000 * (fI s8 (aR s8 (fR s8 a0 10) a1) 4))) ∧ (inL (fI s8 (aR s8 (fR s8 a0 10) a2) 4)) ∧ (fI s8 (aR s8 (fR s8 a0 10) a2) 4 ≠ 0) ∧ (inL ((1000 * (fI s8 (aR s8 (fR s8 a0 10) a1) 4)).tdiv (fI s8 (aR s8 (fR s8 a0 10) a2) 4))) ∧ F 1 (uI s8 a0 13 (w32 ((1000 * (fI s8 (aR s8 (fR s8 a0 10) a1) 4)).tdiv (fI s8 (aR s8 (fR s8 a0 10) a2) 4))))) ∧ (fI s8 (aR s8 (fR s8 a0 10) a2) 4 = 0 → ck iv L h0 d 47 [vr a0, vi 4] s8 (qi fun r25 s24 => F r25 s24)))) ∧ (fI s8 (aR s8 (fR s8 a0 10) a2) 1 ≠ 1 → ck iv L h0 d 47 [vr a0, vi 3] s8 (qi fun r27 s26 => F r27 s26)))))) ∧ (aR s8 (fR s8 a0 10) a2 = 2 → ck iv L h0 d 47 [vr a0, vi 1] s8 (qi fun r29 s28 => F r29 s28)))))) ∧ (r9 = 0 → (kl s8 a0 = 1) ∧ ck iv L h0 d 47 [vr a0, vi 2] s8 (qi fun r32 s31 => F r32 s31)))))))) : ck iv L h0 (d + 1) 34 [vr a0, vi a1, vi a2] s (qi F) := by
  show wk iv L h0 (d + 1) 34 0 [lr a0, li a1, li a2] [] s (qi F)
  refine w_aload_n rfl rfl ?_
  refine w_iload_n rfl rfl ?_
  obtain ⟨g1, H⟩ := H
  refine c_virt (p := a0) (as := [vi a1]) (r := []) rfl rfl rfl rfl rfl rfl g1 (wc_mono H (Nat.le_refl _) ?_)
  rintro _ s2 ⟨r3, rfl, H⟩
  show wk iv L h0 (d + 1) 34 5 [lr a0, li a1, li a2] [vi r3] s2 (qi F)
  refine w_if_eq rfl (fun h => ?_) (fun h => ?_)
  · replace H := H.1 h
    refine w_aload_n rfl rfl ?_
    refine w_iconst (n := 2) rfl rfl ?_
    obtain ⟨g4, H⟩ := H
    refine c_virt (p := a0) (as := [vi 2]) (r := []) rfl rfl rfl rfl rfl rfl g4 (wc_mono H (Nat.le_refl _) ?_)
    rintro _ s5 ⟨r6, rfl, H⟩
    show wk iv L h0 (d + 1) 34 21 [lr a0, li a1, li a2] [vi r6] s5 (qi F)
    exact w_iret rfl rfl ⟨_, rfl, H⟩
  · replace H := H.2 h
    refine w_aload_n rfl rfl ?_
    refine w_iload_n rfl rfl ?_
    obtain ⟨g7, H⟩ := H
    refine c_virt (p := a0) (as := [vi a2]) (r := []) rfl rfl rfl rfl rfl rfl g7 (wc_mono H (Nat.le_refl _) ?_)
    rintro _ s8 ⟨r9, rfl, H⟩
    show wk iv L h0 (d + 1) 34 13 [lr a0, li a1, li a2] [vi r9] s8 (qi F)
    refine w_if_ne rfl (fun h => ?_) (fun h => ?_)
    · replace H := H.1 h
      refine w_aload_n rfl rfl ?_
      obtain ⟨g10, H⟩ := H
      refine c_getr rfl rfl rfl g10 ?_
      refine w_iload_n rfl rfl ?_
      obtain ⟨g11, H⟩ := H
      obtain ⟨g12, H⟩ := H
      refine c_aald (t := 3) rfl ⟨g11, by decide, by decide⟩ g12 ?_
      refine w_astore_n rfl rfl ?_
      refine w_aload_n rfl rfl ?_
      refine c_getr rfl rfl rfl g10 ?_
      refine w_iload_n rfl rfl ?_
      obtain ⟨g13, H⟩ := H
      refine c_aald (t := 3) rfl ⟨g11, by decide, by decide⟩ g13 ?_
      refine w_astore rfl rfl ?_
      refine w_aload_n rfl rfl ?_
      refine c_null rfl (fun h => ?_) (fun h => ?_)
      · replace H := H.1 h
        refine w_aload_n rfl rfl ?_
        refine w_iconst (n := 1) rfl rfl ?_
        refine c_virt (p := a0) (as := [vi 1]) (r := []) rfl rfl rfl rfl rfl rfl g10 (wc_mono H (Nat.le_refl _) ?_)
        rintro _ s14 ⟨r15, rfl, H⟩
        show wk iv L h0 (d + 1) 34 51 [lr a0, li a1, li a2, lr (aR s8 (fR s8 a0 10) a1), lr (aR s8 (fR s8 a0 10) a2)] [vi r15] s14 (qi F)
        exact w_iret rfl rfl ⟨_, rfl, H⟩
      · replace H := H.2 h
        refine w_aload rfl rfl ?_
        refine c_nonnull rfl (fun h => ?_) (fun h => ?_)
        · replace H := H.1 h
          refine w_aload_n rfl rfl ?_
          obtain ⟨g16, H⟩ := H
          refine c_get rfl rfl rfl g16 ?_
          refine w_iconst (n := 1) rfl rfl ?_
          refine w_icmp_ne rfl (fun h => ?_) (fun h => ?_)
          · replace H := H.1 h
            refine w_aload_n rfl rfl ?_
            refine w_iconst (n := 3) rfl rfl ?_
            refine c_virt (p := a0) (as := [vi 3]) (r := []) rfl rfl rfl rfl rfl rfl g10 (wc_mono H (Nat.le_refl _) ?_)
            rintro _ s17 ⟨r18, rfl, H⟩
            show wk iv L h0 (d + 1) 34 74 [lr a0, li a1, li a2, lr (aR s8 (fR s8 a0 10) a1), lr (aR s8 (fR s8 a0 10) a2)] [vi r18] s17 (qi F)
            exact w_iret rfl rfl ⟨_, rfl, H⟩
          · replace H := H.2 h
            refine w_aload rfl rfl ?_
            obtain ⟨g19, H⟩ := H
            refine c_get rfl rfl rfl g19 ?_
            refine w_iconst (n := 1) rfl rfl ?_
            refine w_icmp_eq rfl (fun h => ?_) (fun h => ?_)
            · replace H := H.1 h
              refine w_aload rfl rfl ?_
              refine c_get rfl rfl rfl g19 ?_
              refine w_if_ne rfl (fun h => ?_) (fun h => ?_)
              · replace H := H.1 h
                refine w_aload_n rfl rfl ?_
                refine w_ldc2 (z := 1000) rfl rfl ?_
                refine w_aload_n rfl rfl ?_
                refine c_get rfl rfl rfl g16 ?_
                refine w_i2l rfl ?_
                refine w_lmul rfl ?_
                refine w_aload rfl rfl ?_
                refine c_get rfl rfl rfl g19 ?_
                refine w_i2l rfl ?_
                obtain ⟨g20, H⟩ := H
                obtain ⟨g21, H⟩ := H
                obtain ⟨g22, H⟩ := H
                obtain ⟨g23, H⟩ := H
                refine w_ldiv rfl g20 g21 g22 g23 ?_
                refine w_l2i rfl ?_
                refine c_put rfl rfl rfl rfl g10 ?_
                refine w_iconst (n := 1) rfl rfl ?_
                exact w_iret rfl rfl ⟨_, rfl, H⟩
              · replace H := H.2 h
                refine w_aload_n rfl rfl ?_
                refine w_iconst (n := 4) rfl rfl ?_
                refine c_virt (p := a0) (as := [vi 4]) (r := []) rfl rfl rfl rfl rfl rfl g10 (wc_mono H (Nat.le_refl _) ?_)
                rintro _ s24 ⟨r25, rfl, H⟩
                show wk iv L h0 (d + 1) 34 88 [lr a0, li a1, li a2, lr (aR s8 (fR s8 a0 10) a1), lr (aR s8 (fR s8 a0 10) a2)] [vi r25] s24 (qi F)
                exact w_iret rfl rfl ⟨_, rfl, H⟩
            · replace H := H.2 h
              refine w_aload_n rfl rfl ?_
              refine w_iconst (n := 3) rfl rfl ?_
              refine c_virt (p := a0) (as := [vi 3]) (r := []) rfl rfl rfl rfl rfl rfl g10 (wc_mono H (Nat.le_refl _) ?_)
              rintro _ s26 ⟨r27, rfl, H⟩
              show wk iv L h0 (d + 1) 34 74 [lr a0, li a1, li a2, lr (aR s8 (fR s8 a0 10) a1), lr (aR s8 (fR s8 a0 10) a2)] [vi r27] s26 (qi F)
              exact w_iret rfl rfl ⟨_, rfl, H⟩
        · replace H := H.2 h
          refine w_aload_n rfl rfl ?_
          refine w_iconst (n := 1) rfl rfl ?_
          refine c_virt (p := a0) (as := [vi 1]) (r := []) rfl rfl rfl rfl rfl rfl g10 (wc_mono H (Nat.le_refl _) ?_)
          rintro _ s28 ⟨r29, rfl, H⟩
          show wk iv L h0 (d + 1) 34 51 [lr a0, li a1, li a2, lr (aR s8 (fR s8 a0 10) a1), lr (aR s8 (fR s8 a0 10) a2)] [vi r29] s28 (qi F)
          exact w_iret rfl rfl ⟨_, rfl, H⟩
    · replace H := H.2 h
      refine w_aload_n rfl rfl ?_
      refine w_iconst (n := 2) rfl rfl ?_
      obtain ⟨g30, H⟩ := H
      refine c_virt (p := a0) (as := [vi 2]) (r := []) rfl rfl rfl rfl rfl rfl g30 (wc_mono H (Nat.le_refl _) ?_)
      rintro _ s31 ⟨r32, rfl, H⟩
      show wk iv L h0 (d + 1) 34 21 [lr a0, li a1, li a2] [vi r32] s31 (qi F)
      exact w_iret rfl rfl ⟨_, rfl, H⟩

/-- HoleDesk.asked()I -/
theorem C35 {iv : List (Int × Int)} {L : Nat} {h0 : MH} {d : Nat} {s : SC} {a0 : Nat} {F : Int → SC → Prop} (H : (kl s a0 = 1) ∧ F (fI s a0 13) s) : ck iv L h0 d 35 [vr a0] s (qi F) := by
  show wk iv L h0 d 35 0 [lr a0] [] s (qi F)
  refine w_aload_n rfl rfl ?_
  obtain ⟨g1, H⟩ := H
  refine c_get rfl rfl rfl g1 ?_
  exact w_iret rfl rfl ⟨_, rfl, H⟩

/-- HoleDesk.count(I)I -/
theorem C36 {iv : List (Int × Int)} {L : Nat} {h0 : MH} {d : Nat} {s : SC} {a0 : Nat} {a1 : Int} {F : Int → SC → Prop} (H : ((a1 = 0 → (kl s a0 = 1) ∧ (kl s (fR s a0 0) = 4) ∧ F (fI s (fR s a0 0) 4) s) ∧ (a1 = 1 → (kl s a0 = 1) ∧ (kl s (fR s a0 1) = 8) ∧ F (fI s (fR s a0 1) 4) s) ∧ (a1 = 2 → (kl s a0 = 1) ∧ (kl s (fR s a0 1) = 8) ∧ F (fI s (fR s a0 1) 7) s) ∧ (a1 = 3 → (kl s a0 = 1) ∧ ck iv L h0 d 49 [vr a0, vi 1] s (qi fun r9 s8 => F r9 s8)) ∧ (a1 = 4 → (kl s a0 = 1) ∧ ck iv L h0 d 49 [vr a0, vi 0] s (qi fun r12 s11 => F r12 s11)) ∧ (a1 = 5 → (kl s a0 = 1) ∧ ck iv L h0 d 50 [vr a0] s (qi fun r15 s14 => F r15 s14)) ∧ (a1 = 6 → (kl s a0 = 1) ∧ (kl s (fR s a0 3) = 11) ∧ ((fI s (fR s a0 3) 4 ≠ (-1) → F (fI s (fR s a0 3) 4) s) ∧ (fI s (fR s a0 3) 4 = (-1) → F (-9) s))) ∧ (a1 < 0 ∨ 6 < a1 → F (-1) s))) : ck iv L h0 (d + 1) 36 [vr a0, vi a1] s (qi F) := by
  show wk iv L h0 (d + 1) 36 0 [lr a0, li a1] [] s (qi F)
  refine w_iload_n rfl rfl ?_
  have J44 : (a1 = 0) → wk iv L h0 (d + 1) 36 44 [lr a0, li a1] [] s (qi F) := fun h => by
    replace H := H.1 h
    refine w_aload_n rfl rfl ?_
    obtain ⟨g1, H⟩ := H
    refine c_getr rfl rfl rfl g1 ?_
    obtain ⟨g2, H⟩ := H
    refine c_get rfl rfl rfl g2 ?_
    exact w_iret rfl rfl ⟨_, rfl, H⟩
  have J52 : (a1 = 1) → wk iv L h0 (d + 1) 36 52 [lr a0, li a1] [] s (qi F) := fun h => by
    replace H := H.2.1 h
    refine w_aload_n rfl rfl ?_
    obtain ⟨g3, H⟩ := H
    refine c_getr rfl rfl rfl g3 ?_
    obtain ⟨g4, H⟩ := H
    refine c_get rfl rfl rfl g4 ?_
    exact w_iret rfl rfl ⟨_, rfl, H⟩
  have J60 : (a1 = 2) → wk iv L h0 (d + 1) 36 60 [lr a0, li a1] [] s (qi F) := fun h => by
    replace H := H.2.2.1 h
    refine w_aload_n rfl rfl ?_
    obtain ⟨g5, H⟩ := H
    refine c_getr rfl rfl rfl g5 ?_
    obtain ⟨g6, H⟩ := H
    refine c_get rfl rfl rfl g6 ?_
    exact w_iret rfl rfl ⟨_, rfl, H⟩
  have J68 : (a1 = 3) → wk iv L h0 (d + 1) 36 68 [lr a0, li a1] [] s (qi F) := fun h => by
    replace H := H.2.2.2.1 h
    refine w_aload_n rfl rfl ?_
    refine w_iconst (n := 1) rfl rfl ?_
    obtain ⟨g7, H⟩ := H
    refine c_virt (p := a0) (as := [vi 1]) (r := []) rfl rfl rfl rfl rfl rfl g7 (wc_mono H (Nat.le_refl _) ?_)
    rintro _ s8 ⟨r9, rfl, H⟩
    show wk iv L h0 (d + 1) 36 73 [lr a0, li a1] [vi r9] s8 (qi F)
    exact w_iret rfl rfl ⟨_, rfl, H⟩
  have J74 : (a1 = 4) → wk iv L h0 (d + 1) 36 74 [lr a0, li a1] [] s (qi F) := fun h => by
    replace H := H.2.2.2.2.1 h
    refine w_aload_n rfl rfl ?_
    refine w_iconst (n := 0) rfl rfl ?_
    obtain ⟨g10, H⟩ := H
    refine c_virt (p := a0) (as := [vi 0]) (r := []) rfl rfl rfl rfl rfl rfl g10 (wc_mono H (Nat.le_refl _) ?_)
    rintro _ s11 ⟨r12, rfl, H⟩
    show wk iv L h0 (d + 1) 36 79 [lr a0, li a1] [vi r12] s11 (qi F)
    exact w_iret rfl rfl ⟨_, rfl, H⟩
  have J80 : (a1 = 5) → wk iv L h0 (d + 1) 36 80 [lr a0, li a1] [] s (qi F) := fun h => by
    replace H := H.2.2.2.2.2.1 h
    refine w_aload_n rfl rfl ?_
    obtain ⟨g13, H⟩ := H
    refine c_virt (p := a0) (as := []) (r := []) rfl rfl rfl rfl rfl rfl g13 (wc_mono H (Nat.le_refl _) ?_)
    rintro _ s14 ⟨r15, rfl, H⟩
    show wk iv L h0 (d + 1) 36 84 [lr a0, li a1] [vi r15] s14 (qi F)
    exact w_iret rfl rfl ⟨_, rfl, H⟩
  have J85 : (a1 = 6) → wk iv L h0 (d + 1) 36 85 [lr a0, li a1] [] s (qi F) := fun h => by
    replace H := H.2.2.2.2.2.2.1 h
    refine w_aload_n rfl rfl ?_
    obtain ⟨g16, H⟩ := H
    refine c_getr rfl rfl rfl g16 ?_
    obtain ⟨g17, H⟩ := H
    refine c_get rfl rfl rfl g17 ?_
    refine w_iconst (n := (-1)) rfl rfl ?_
    refine w_icmp_ne rfl (fun h => ?_) (fun h => ?_)
    · replace H := H.1 h
      refine w_aload_n rfl rfl ?_
      refine c_getr rfl rfl rfl g16 ?_
      refine c_get rfl rfl rfl g17 ?_
      exact w_iret rfl rfl ⟨_, rfl, H⟩
    · replace H := H.2 h
      refine w_bipush (n := (-9)) rfl rfl rfl ?_
      refine w_goto rfl ?_
      exact w_iret rfl rfl ⟨_, rfl, H⟩
  have J109 : (a1 < 0 ∨ 6 < a1) → wk iv L h0 (d + 1) 36 109 [lr a0, li a1] [] s (qi F) := fun h => by
    replace H := H.2.2.2.2.2.2.2 h
    refine w_iconst (n := (-1)) rfl rfl ?_
    exact w_iret rfl rfl ⟨_, rfl, H⟩
  refine w_tsw (td := 109) (ts := [44, 52, 60, 68, 74, 80, 85]) rfl rfl rfl rfl rfl rfl (fun h => J109 (by omega)) ?_
  exact swA_c (fun h => J44 (by omega)) (swA_c (fun h => J52 (by omega)) (swA_c (fun h => J60 (by omega)) (swA_c (fun h => J68 (by omega)) (swA_c (fun h => J74 (by omega)) (swA_c (fun h => J80 (by omega)) (swA_c (fun h => J85 (by omega)) (swA_n)))))))

/-- HoleDesk.finding()I -/
theorem C37 {iv : List (Int × Int)} {L : Nat} {h0 : MH} {d : Nat} {s : SC} {a0 : Nat} {F : Int → SC → Prop} (H : (kl s a0 = 1) ∧ F (fI s a0 14) s) : ck iv L h0 d 37 [vr a0] s (qi F) := by
  show wk iv L h0 d 37 0 [lr a0] [] s (qi F)
  refine w_aload_n rfl rfl ?_
  obtain ⟨g1, H⟩ := H
  refine c_get rfl rfl rfl g1 ?_
  exact w_iret rfl rfl ⟨_, rfl, H⟩

/-- HoleDesk.findings(I)I -/
theorem C38 {iv : List (Int × Int)} {L : Nat} {h0 : MH} {d : Nat} {s : SC} {a0 : Nat} {a1 : Int} {F : Int → SC → Prop} (H : ((a1 < 1 → F (-1) s) ∧ (1 ≤ a1 → ((a1 ≤ 5 → (kl s a0 = 1) ∧ (kl s (fR s a0 11) = 100) ∧ (0 ≤ a1 ∧ a1 < le s (fR s a0 11)) ∧ F (aI s (fR s a0 11) a1) s) ∧ (5 < a1 → F (-1) s))))) : ck iv L h0 d 38 [vr a0, vi a1] s (qi F) := by
  show wk iv L h0 d 38 0 [lr a0, li a1] [] s (qi F)
  refine w_iload_n rfl rfl ?_
  refine w_iconst (n := 1) rfl rfl ?_
  refine w_icmp_lt rfl (fun h => ?_) (fun h => ?_)
  · replace H := H.1 h
    refine w_iconst (n := (-1)) rfl rfl ?_
    refine w_goto rfl ?_
    exact w_iret rfl rfl ⟨_, rfl, H⟩
  · replace H := H.2 h
    refine w_iload_n rfl rfl ?_
    refine w_iconst (n := 5) rfl rfl ?_
    refine w_icmp_le rfl (fun h => ?_) (fun h => ?_)
    · replace H := H.1 h
      refine w_aload_n rfl rfl ?_
      obtain ⟨g1, H⟩ := H
      refine c_getr rfl rfl rfl g1 ?_
      refine w_iload_n rfl rfl ?_
      obtain ⟨g2, H⟩ := H
      obtain ⟨g3, H⟩ := H
      refine c_ald rfl g2 g3 ?_
      exact w_iret rfl rfl ⟨_, rfl, H⟩
    · replace H := H.2 h
      refine w_iconst (n := (-1)) rfl rfl ?_
      refine w_goto rfl ?_
      exact w_iret rfl rfl ⟨_, rfl, H⟩

/-- HoleDesk.digest()J -/
theorem C39 {iv : List (Int × Int)} {L : Nat} {h0 : MH} {d : Nat} {s : SC} {a0 : Nat} {F : Int → SC → Prop} (H : wk iv L h0 d 39 6 [lr a0, ll 17, ln, li 0] [] s (ql F)) : ck iv L h0 d 39 [vr a0] s (ql F) := by
  show wk iv L h0 d 39 0 [lr a0] [] s (ql F)
  refine w_ldc2 (z := 17) rfl rfl ?_
  refine w_lstore_n rfl rfl ?_
  refine w_iconst (n := 0) rfl rfl ?_
  refine w_istore_n rfl rfl ?_
  exact wp_ls (sl_s (sl_s (sl_n (sl_s (sl_0))))) H

/-- HoleDesk.digest()J at 6 -/
theorem C39_6 {iv : List (Int × Int)} {L : Nat} {h0 : MH} {d : Nat} {s : SC} {l0 : Nat} {l1 : Int} {l3 : Int} {F : Int → SC → Prop} (H : (kl s l0 = 1) ∧ (kl s (fR s l0 1) = 8) ∧ ((fI s (fR s l0 1) 3 ≤ l3 → (kl s (fR s (fR s l0 1) 2) = 5) ∧ F ((31 * ((31 * l1) + (fI s (fR s (fR s l0 1) 2) 0))) + (fI s (fR s l0 1) 4)) s) ∧ (l3 < fI s (fR s l0 1) 3 → (kl s (fR s (fR s l0 1) 0) = 103) ∧ (0 ≤ l3 ∧ l3 < le s (fR s (fR s l0 1) 0)) ∧ (kl s (aR s (fR s (fR s l0 1) 0) l3) = 5) ∧ (-2147483648 ≤ l3 + 1 ∧ l3 + 1 ≤ 2147483647) ∧ wk iv L h0 d 39 6 [lr l0, ll ((31 * ((31 * ((31 * ((31 * ((31 * l1) + (fI s (aR s (fR s (fR s l0 1) 0) l3) 0))) + (fI s (aR s (fR s (fR s l0 1) 0) l3) 1))) + (fI s (aR s (fR s (fR s l0 1) 0) l3) 4))) + (fI s (aR s (fR s (fR s l0 1) 0) l3) 2))) + (fI s (aR s (fR s (fR s l0 1) 0) l3) 10)), ln, li (l3 + 1)] [] s (ql F)))) : wk iv L h0 d 39 6 [lr l0, ll l1, ln, li l3] [] s (ql F) := by
  refine w_iload_n rfl rfl ?_
  refine w_aload_n rfl rfl ?_
  obtain ⟨g1, H⟩ := H
  refine c_getr rfl rfl rfl g1 ?_
  obtain ⟨g2, H⟩ := H
  refine c_get rfl rfl rfl g2 ?_
  refine w_icmp_ge rfl (fun h => ?_) (fun h => ?_)
  · replace H := H.1 h
    refine w_ldc2 (z := 31) rfl rfl ?_
    refine w_lload_n rfl rfl ?_
    refine w_lmul rfl ?_
    refine w_aload_n rfl rfl ?_
    refine c_getr rfl rfl rfl g1 ?_
    refine c_getr rfl rfl rfl g2 ?_
    obtain ⟨g3, H⟩ := H
    refine c_get rfl rfl rfl g3 ?_
    refine w_i2l rfl ?_
    refine w_ladd rfl ?_
    refine w_lstore_n rfl rfl ?_
    refine w_ldc2 (z := 31) rfl rfl ?_
    refine w_lload_n rfl rfl ?_
    refine w_lmul rfl ?_
    refine w_aload_n rfl rfl ?_
    refine c_getr rfl rfl rfl g1 ?_
    refine c_get rfl rfl rfl g2 ?_
    refine w_i2l rfl ?_
    refine w_ladd rfl ?_
    exact w_lret rfl rfl ⟨_, rfl, H⟩
  · replace H := H.2 h
    refine w_aload_n rfl rfl ?_
    refine c_getr rfl rfl rfl g1 ?_
    refine c_getr rfl rfl rfl g2 ?_
    refine w_iload_n rfl rfl ?_
    obtain ⟨g4, H⟩ := H
    obtain ⟨g5, H⟩ := H
    refine c_aald (t := 3) rfl ⟨g4, by decide, by decide⟩ g5 ?_
    refine w_astore rfl rfl ?_
    refine w_ldc2 (z := 31) rfl rfl ?_
    refine w_lload_n rfl rfl ?_
    refine w_lmul rfl ?_
    refine w_aload rfl rfl ?_
    obtain ⟨g6, H⟩ := H
    refine c_get rfl rfl rfl g6 ?_
    refine w_i2l rfl ?_
    refine w_ladd rfl ?_
    refine w_lstore_n rfl rfl ?_
    refine w_ldc2 (z := 31) rfl rfl ?_
    refine w_lload_n rfl rfl ?_
    refine w_lmul rfl ?_
    refine w_aload rfl rfl ?_
    refine c_get rfl rfl rfl g6 ?_
    refine w_i2l rfl ?_
    refine w_ladd rfl ?_
    refine w_lstore_n rfl rfl ?_
    refine w_ldc2 (z := 31) rfl rfl ?_
    refine w_lload_n rfl rfl ?_
    refine w_lmul rfl ?_
    refine w_aload rfl rfl ?_
    refine c_get rfl rfl rfl g6 ?_
    refine w_i2l rfl ?_
    refine w_ladd rfl ?_
    refine w_lstore_n rfl rfl ?_
    refine w_ldc2 (z := 31) rfl rfl ?_
    refine w_lload_n rfl rfl ?_
    refine w_lmul rfl ?_
    refine w_aload rfl rfl ?_
    refine c_get rfl rfl rfl g6 ?_
    refine w_i2l rfl ?_
    refine w_ladd rfl ?_
    refine w_lstore_n rfl rfl ?_
    refine w_ldc2 (z := 31) rfl rfl ?_
    refine w_lload_n rfl rfl ?_
    refine w_lmul rfl ?_
    refine w_aload rfl rfl ?_
    refine c_get rfl rfl rfl g6 ?_
    refine w_i2l rfl ?_
    refine w_ladd rfl ?_
    refine w_lstore_n rfl rfl ?_
    obtain ⟨g7, H⟩ := H
    refine w_iinc rfl rfl rfl g7 ?_
    refine w_goto rfl ?_
    exact wp_ls (sl_s (sl_s (sl_n (sl_s (sl_0))))) H

/-- HoleDesk.isLetter(I)Z -/
theorem C40 {iv : List (Int × Int)} {L : Nat} {h0 : MH} {d : Nat} {s : SC} {a1 : Int} {F : Int → SC → Prop} (H : ((a1 < 0 → F 0 s) ∧ (0 ≤ a1 → ((26 ≤ a1 → F 0 s) ∧ (a1 < 26 → F 1 s))))) : ck iv L h0 d 40 [vi a1] s (qi F) := by
  show wk iv L h0 d 40 0 [li a1] [] s (qi F)
  refine w_iload_n rfl rfl ?_
  refine w_if_lt rfl (fun h => ?_) (fun h => ?_)
  · replace H := H.1 h
    refine w_iconst (n := 0) rfl rfl ?_
    exact w_iretz rfl rfl (by decide) ⟨_, rfl, H⟩
  · replace H := H.2 h
    refine w_iload_n rfl rfl ?_
    refine w_bipush (n := 26) rfl rfl rfl ?_
    refine w_icmp_ge rfl (fun h => ?_) (fun h => ?_)
    · replace H := H.1 h
      refine w_iconst (n := 0) rfl rfl ?_
      exact w_iretz rfl rfl (by decide) ⟨_, rfl, H⟩
    · replace H := H.2 h
      refine w_iconst (n := 1) rfl rfl ?_
      refine w_goto rfl ?_
      exact w_iretz rfl rfl (by decide) ⟨_, rfl, H⟩

/-- HoleDesk.isPlace(I)Z -/
theorem C41 {iv : List (Int × Int)} {L : Nat} {h0 : MH} {d : Nat} {s : SC} {a1 : Int} {F : Int → SC → Prop} (H : ((a1 < 0 → F 0 s) ∧ (0 ≤ a1 → ((6 ≤ a1 → F 0 s) ∧ (a1 < 6 → F 1 s))))) : ck iv L h0 d 41 [vi a1] s (qi F) := by
  show wk iv L h0 d 41 0 [li a1] [] s (qi F)
  refine w_iload_n rfl rfl ?_
  refine w_if_lt rfl (fun h => ?_) (fun h => ?_)
  · replace H := H.1 h
    refine w_iconst (n := 0) rfl rfl ?_
    exact w_iretz rfl rfl (by decide) ⟨_, rfl, H⟩
  · replace H := H.2 h
    refine w_iload_n rfl rfl ?_
    refine w_bipush (n := 6) rfl rfl rfl ?_
    refine w_icmp_ge rfl (fun h => ?_) (fun h => ?_)
    · replace H := H.1 h
      refine w_iconst (n := 0) rfl rfl ?_
      exact w_iretz rfl rfl (by decide) ⟨_, rfl, H⟩
    · replace H := H.2 h
      refine w_iconst (n := 1) rfl rfl ?_
      refine w_goto rfl ?_
      exact w_iretz rfl rfl (by decide) ⟨_, rfl, H⟩

/-- HoleDesk.isStepLimit(I)Z -/
theorem C42 {iv : List (Int × Int)} {L : Nat} {h0 : MH} {d : Nat} {s : SC} {a1 : Int} {F : Int → SC → Prop} (H : ((a1 < 0 → F 0 s) ∧ (0 ≤ a1 → ((300 < a1 → F 0 s) ∧ (a1 ≤ 300 → F 1 s))))) : ck iv L h0 d 42 [vi a1] s (qi F) := by
  show wk iv L h0 d 42 0 [li a1] [] s (qi F)
  refine w_iload_n rfl rfl ?_
  refine w_if_lt rfl (fun h => ?_) (fun h => ?_)
  · replace H := H.1 h
    refine w_iconst (n := 0) rfl rfl ?_
    exact w_iretz rfl rfl (by decide) ⟨_, rfl, H⟩
  · replace H := H.2 h
    refine w_iload_n rfl rfl ?_
    refine w_sipush (n := 300) rfl rfl rfl ?_
    refine w_icmp_gt rfl (fun h => ?_) (fun h => ?_)
    · replace H := H.1 h
      refine w_iconst (n := 0) rfl rfl ?_
      exact w_iretz rfl rfl (by decide) ⟨_, rfl, H⟩
    · replace H := H.2 h
      refine w_iconst (n := 1) rfl rfl ?_
      refine w_goto rfl ?_
      exact w_iretz rfl rfl (by decide) ⟨_, rfl, H⟩

/-- HoleDesk.bearsNumber(I)Z -/
theorem C43 {iv : List (Int × Int)} {L : Nat} {h0 : MH} {d : Nat} {s : SC} {a1 : Int} {F : Int → SC → Prop} (H : ((a1 = 1 → F 1 s) ∧ (a1 ≠ 1 → ((a1 = 2 → F 1 s) ∧ (a1 ≠ 2 → ((a1 = 3 → F 1 s) ∧ (a1 ≠ 3 → ((a1 = 8 → F 1 s) ∧ (a1 ≠ 8 → ((a1 ≠ 10 → F 0 s) ∧ (a1 = 10 → F 1 s))))))))))) : ck iv L h0 d 43 [vi a1] s (qi F) := by
  show wk iv L h0 d 43 0 [li a1] [] s (qi F)
  refine w_iload_n rfl rfl ?_
  refine w_iconst (n := 1) rfl rfl ?_
  refine w_icmp_eq rfl (fun h => ?_) (fun h => ?_)
  · replace H := H.1 h
    refine w_iconst (n := 1) rfl rfl ?_
    refine w_goto rfl ?_
    exact w_iretz rfl rfl (by decide) ⟨_, rfl, H⟩
  · replace H := H.2 h
    refine w_iload_n rfl rfl ?_
    refine w_iconst (n := 2) rfl rfl ?_
    refine w_icmp_eq rfl (fun h => ?_) (fun h => ?_)
    · replace H := H.1 h
      refine w_iconst (n := 1) rfl rfl ?_
      refine w_goto rfl ?_
      exact w_iretz rfl rfl (by decide) ⟨_, rfl, H⟩
    · replace H := H.2 h
      refine w_iload_n rfl rfl ?_
      refine w_iconst (n := 3) rfl rfl ?_
      refine w_icmp_eq rfl (fun h => ?_) (fun h => ?_)
      · replace H := H.1 h
        refine w_iconst (n := 1) rfl rfl ?_
        refine w_goto rfl ?_
        exact w_iretz rfl rfl (by decide) ⟨_, rfl, H⟩
      · replace H := H.2 h
        refine w_iload_n rfl rfl ?_
        refine w_bipush (n := 8) rfl rfl rfl ?_
        refine w_icmp_eq rfl (fun h => ?_) (fun h => ?_)
        · replace H := H.1 h
          refine w_iconst (n := 1) rfl rfl ?_
          refine w_goto rfl ?_
          exact w_iretz rfl rfl (by decide) ⟨_, rfl, H⟩
        · replace H := H.2 h
          refine w_iload_n rfl rfl ?_
          refine w_bipush (n := 10) rfl rfl rfl ?_
          refine w_icmp_ne rfl (fun h => ?_) (fun h => ?_)
          · replace H := H.1 h
            refine w_iconst (n := 0) rfl rfl ?_
            exact w_iretz rfl rfl (by decide) ⟨_, rfl, H⟩
          · replace H := H.2 h
            refine w_iconst (n := 1) rfl rfl ?_
            refine w_goto rfl ?_
            exact w_iretz rfl rfl (by decide) ⟨_, rfl, H⟩

/-- HoleDesk.bearsKind(I)Z -/
theorem C44 {iv : List (Int × Int)} {L : Nat} {h0 : MH} {d : Nat} {s : SC} {a1 : Int} {F : Int → SC → Prop} (H : ((a1 = 8 → F 1 s) ∧ (a1 ≠ 8 → ((a1 ≠ 15 → F 0 s) ∧ (a1 = 15 → F 1 s))))) : ck iv L h0 d 44 [vi a1] s (qi F) := by
  show wk iv L h0 d 44 0 [li a1] [] s (qi F)
  refine w_iload_n rfl rfl ?_
  refine w_bipush (n := 8) rfl rfl rfl ?_
  refine w_icmp_eq rfl (fun h => ?_) (fun h => ?_)
  · replace H := H.1 h
    refine w_iconst (n := 1) rfl rfl ?_
    refine w_goto rfl ?_
    exact w_iretz rfl rfl (by decide) ⟨_, rfl, H⟩
  · replace H := H.2 h
    refine w_iload_n rfl rfl ?_
    refine w_bipush (n := 15) rfl rfl rfl ?_
    refine w_icmp_ne rfl (fun h => ?_) (fun h => ?_)
    · replace H := H.1 h
      refine w_iconst (n := 0) rfl rfl ?_
      exact w_iretz rfl rfl (by decide) ⟨_, rfl, H⟩
    · replace H := H.2 h
      refine w_iconst (n := 1) rfl rfl ?_
      refine w_goto rfl ?_
      exact w_iretz rfl rfl (by decide) ⟨_, rfl, H⟩

/-- HoleDesk.fits(II)Z -/
theorem C45 {iv : List (Int × Int)} {L : Nat} {h0 : MH} {d : Nat} {s : SC} {a1 : Int} {a2 : Int} {F : Int → SC → Prop} (H : ((a1 ≠ 2 → ((a1 = 1 → F 1 s) ∧ (a1 ≠ 1 → ck iv L h0 d 43 [vi a1] s (qi fun r2 s1 => ((r2 = 0 → F 1 s1) ∧ (r2 ≠ 0 → ck iv L h0 d 40 [vi a2] s1 (qi fun r4 s3 => ((r4 = 0 → F 0 s3) ∧ (r4 ≠ 0 → F 1 s3))))))))) ∧ (a1 = 2 → ((a2 = 0 → F 1 s) ∧ (a2 ≠ 0 → ((a2 ≠ 1 → F 0 s) ∧ (a2 = 1 → F 1 s))))))) : ck iv L h0 (d + 1) 45 [vi a1, vi a2] s (qi F) := by
  show wk iv L h0 (d + 1) 45 0 [li a1, li a2] [] s (qi F)
  refine w_iload_n rfl rfl ?_
  refine w_iconst (n := 2) rfl rfl ?_
  refine w_icmp_ne rfl (fun h => ?_) (fun h => ?_)
  · replace H := H.1 h
    refine w_iload_n rfl rfl ?_
    refine w_iconst (n := 1) rfl rfl ?_
    refine w_icmp_eq rfl (fun h => ?_) (fun h => ?_)
    · replace H := H.1 h
      refine w_iconst (n := 1) rfl rfl ?_
      refine w_goto rfl ?_
      exact w_iretz rfl rfl (by decide) ⟨_, rfl, H⟩
    · replace H := H.2 h
      refine w_iload_n rfl rfl ?_
      refine w_static (as := [vi a1]) (r := []) rfl rfl rfl rfl rfl (wc_mono H (Nat.le_refl _) ?_)
      rintro _ s1 ⟨r2, rfl, H⟩
      show wk iv L h0 (d + 1) 45 29 [li a1, li a2] [vi r2] s1 (qi F)
      refine w_if_eq rfl (fun h => ?_) (fun h => ?_)
      · replace H := H.1 h
        refine w_iconst (n := 1) rfl rfl ?_
        refine w_goto rfl ?_
        exact w_iretz rfl rfl (by decide) ⟨_, rfl, H⟩
      · replace H := H.2 h
        refine w_iload_n rfl rfl ?_
        refine w_static (as := [vi a2]) (r := []) rfl rfl rfl rfl rfl (wc_mono H (Nat.le_refl _) ?_)
        rintro _ s3 ⟨r4, rfl, H⟩
        show wk iv L h0 (d + 1) 45 36 [li a1, li a2] [vi r4] s3 (qi F)
        refine w_if_eq rfl (fun h => ?_) (fun h => ?_)
        · replace H := H.1 h
          refine w_iconst (n := 0) rfl rfl ?_
          exact w_iretz rfl rfl (by decide) ⟨_, rfl, H⟩
        · replace H := H.2 h
          refine w_iconst (n := 1) rfl rfl ?_
          refine w_goto rfl ?_
          exact w_iretz rfl rfl (by decide) ⟨_, rfl, H⟩
  · replace H := H.2 h
    refine w_iload_n rfl rfl ?_
    refine w_if_eq rfl (fun h => ?_) (fun h => ?_)
    · replace H := H.1 h
      refine w_iconst (n := 1) rfl rfl ?_
      refine w_goto rfl ?_
      exact w_iretz rfl rfl (by decide) ⟨_, rfl, H⟩
    · replace H := H.2 h
      refine w_iload_n rfl rfl ?_
      refine w_iconst (n := 1) rfl rfl ?_
      refine w_icmp_ne rfl (fun h => ?_) (fun h => ?_)
      · replace H := H.1 h
        refine w_iconst (n := 0) rfl rfl ?_
        exact w_iretz rfl rfl (by decide) ⟨_, rfl, H⟩
      · replace H := H.2 h
        refine w_iconst (n := 1) rfl rfl ?_
        refine w_goto rfl ?_
        exact w_iretz rfl rfl (by decide) ⟨_, rfl, H⟩

/-- HoleDesk.inBox(I)Z -/
theorem C46 {iv : List (Int × Int)} {L : Nat} {h0 : MH} {d : Nat} {s : SC} {a0 : Nat} {a1 : Int} {F : Int → SC → Prop} (H : ((a1 < 0 → F 0 s) ∧ (0 ≤ a1 → (kl s a0 = 1) ∧ ((fI s a0 12 ≤ a1 → F 0 s) ∧ (a1 < fI s a0 12 → F 1 s))))) : ck iv L h0 d 46 [vr a0, vi a1] s (qi F) := by
  show wk iv L h0 d 46 0 [lr a0, li a1] [] s (qi F)
  refine w_iload_n rfl rfl ?_
  refine w_if_lt rfl (fun h => ?_) (fun h => ?_)
  · replace H := H.1 h
    refine w_iconst (n := 0) rfl rfl ?_
    exact w_iretz rfl rfl (by decide) ⟨_, rfl, H⟩
  · replace H := H.2 h
    refine w_iload_n rfl rfl ?_
    refine w_aload_n rfl rfl ?_
    obtain ⟨g1, H⟩ := H
    refine c_get rfl rfl rfl g1 ?_
    refine w_icmp_ge rfl (fun h => ?_) (fun h => ?_)
    · replace H := H.1 h
      refine w_iconst (n := 0) rfl rfl ?_
      exact w_iretz rfl rfl (by decide) ⟨_, rfl, H⟩
    · replace H := H.2 h
      refine w_iconst (n := 1) rfl rfl ?_
      refine w_goto rfl ?_
      exact w_iretz rfl rfl (by decide) ⟨_, rfl, H⟩

/-- HoleDesk.refuse(I)I -/
theorem C47 {iv : List (Int × Int)} {L : Nat} {h0 : MH} {d : Nat} {s : SC} {a0 : Nat} {a1 : Int} {F : Int → SC → Prop} (H : (kl s a0 = 1) ∧ (kl s (fR s a0 11) = 100) ∧ (0 ≤ a1 ∧ a1 < le s (fR s a0 11)) ∧ (-2147483648 ≤ (aI s (fR s a0 11) a1) + 1 ∧ (aI s (fR s a0 11) a1) + 1 ≤ 2147483647) ∧ F (-3) (uA (uI s a0 14 a1) (fR s a0 11) a1 ((aI s (fR s a0 11) a1) + 1))) : ck iv L h0 d 47 [vr a0, vi a1] s (qi F) := by
  show wk iv L h0 d 47 0 [lr a0, li a1] [] s (qi F)
  refine w_aload_n rfl rfl ?_
  refine w_iload_n rfl rfl ?_
  obtain ⟨g1, H⟩ := H
  refine c_put rfl rfl rfl rfl g1 ?_
  refine w_aload_n rfl rfl ?_
  refine c_getr rfl rfl rfl g1 ?_
  show wk iv L h0 d 47 9 [lr a0, li a1] [vr (fR s a0 11)] (uI s a0 14 a1) (qi F)
  refine w_iload_n rfl rfl ?_
  refine w_dup2 rfl rfl rfl ?_
  obtain ⟨g2, H⟩ := H
  obtain ⟨g3, H⟩ := H
  refine c_ald rfl g2 g3 ?_
  show wk iv L h0 d 47 12 [lr a0, li a1] [vi (aI s (fR s a0 11) a1), vi a1, vr (fR s a0 11)] (uI s a0 14 a1) (qi F)
  refine w_iconst (n := 1) rfl rfl ?_
  obtain ⟨g4, H⟩ := H
  refine w_iadd rfl g4 ?_
  refine c_ast rfl g2 g3 ?_
  refine w_bipush (n := (-3)) rfl rfl rfl ?_
  exact w_iret rfl rfl ⟨_, rfl, H⟩

/-- HoleDesk.toldOf(LHoleDesk$Node;I)I -/
theorem C48 {iv : List (Int × Int)} {L : Nat} {h0 : MH} {d : Nat} {s : SC} {a0 : Nat} {a1 : Nat} {a2 : Int} {F : Int → SC → Prop} (H : ((a2 = 0 → (kl s a1 = 5) ∧ F (fI s a1 1) s) ∧ (a2 = 1 → (kl s a1 = 5) ∧ F (fI s a1 4) s) ∧ (a2 = 2 → (kl s a1 = 5) ∧ F (fI s a1 2) s) ∧ (a2 = 3 → (kl s a1 = 5) ∧ ((fR s a1 5 ≠ 2 → (kl s (fR s a1 5) = 5) ∧ F (fI s (fR s a1 5) 0) s) ∧ (fR s a1 5 = 2 → F (-9) s))) ∧ (a2 = 4 → (kl s a1 = 5) ∧ ((fR s a1 5 ≠ 2 → F (fI s a1 6) s) ∧ (fR s a1 5 = 2 → F (-9) s))) ∧ (a2 = 5 → (kl s a1 = 5) ∧ (100 ≤ kl s (fR s a1 3) ∧ kl s (fR s a1 3) < 108) ∧ F (le s (fR s a1 3)) s) ∧ (a2 = 6 → (kl s a1 = 5) ∧ F (fI s a1 10) s) ∧ (a2 < 0 ∨ 6 < a2 → F (-1) s))) : ck iv L h0 d 48 [vr a0, vr a1, vi a2] s (qi F) := by
  show wk iv L h0 d 48 0 [lr a0, lr a1, li a2] [] s (qi F)
  refine w_iload_n rfl rfl ?_
  have J44 : (a2 = 0) → wk iv L h0 d 48 44 [lr a0, lr a1, li a2] [] s (qi F) := fun h => by
    replace H := H.1 h
    refine w_aload_n rfl rfl ?_
    obtain ⟨g1, H⟩ := H
    refine c_get rfl rfl rfl g1 ?_
    exact w_iret rfl rfl ⟨_, rfl, H⟩
  have J49 : (a2 = 1) → wk iv L h0 d 48 49 [lr a0, lr a1, li a2] [] s (qi F) := fun h => by
    replace H := H.2.1 h
    refine w_aload_n rfl rfl ?_
    obtain ⟨g2, H⟩ := H
    refine c_get rfl rfl rfl g2 ?_
    exact w_iret rfl rfl ⟨_, rfl, H⟩
  have J54 : (a2 = 2) → wk iv L h0 d 48 54 [lr a0, lr a1, li a2] [] s (qi F) := fun h => by
    replace H := H.2.2.1 h
    refine w_aload_n rfl rfl ?_
    obtain ⟨g3, H⟩ := H
    refine c_get rfl rfl rfl g3 ?_
    exact w_iret rfl rfl ⟨_, rfl, H⟩
  have J59 : (a2 = 3) → wk iv L h0 d 48 59 [lr a0, lr a1, li a2] [] s (qi F) := fun h => by
    replace H := H.2.2.2.1 h
    refine w_aload_n rfl rfl ?_
    obtain ⟨g4, H⟩ := H
    refine c_getr rfl rfl rfl g4 ?_
    refine c_nonnull rfl (fun h => ?_) (fun h => ?_)
    · replace H := H.1 h
      refine w_aload_n rfl rfl ?_
      refine c_getr rfl rfl rfl g4 ?_
      obtain ⟨g5, H⟩ := H
      refine c_get rfl rfl rfl g5 ?_
      exact w_iret rfl rfl ⟨_, rfl, H⟩
    · replace H := H.2 h
      refine w_bipush (n := (-9)) rfl rfl rfl ?_
      refine w_goto rfl ?_
      exact w_iret rfl rfl ⟨_, rfl, H⟩
  have J79 : (a2 = 4) → wk iv L h0 d 48 79 [lr a0, lr a1, li a2] [] s (qi F) := fun h => by
    replace H := H.2.2.2.2.1 h
    refine w_aload_n rfl rfl ?_
    obtain ⟨g6, H⟩ := H
    refine c_getr rfl rfl rfl g6 ?_
    refine c_nonnull rfl (fun h => ?_) (fun h => ?_)
    · replace H := H.1 h
      refine w_aload_n rfl rfl ?_
      refine c_get rfl rfl rfl g6 ?_
      exact w_iret rfl rfl ⟨_, rfl, H⟩
    · replace H := H.2 h
      refine w_bipush (n := (-9)) rfl rfl rfl ?_
      refine w_goto rfl ?_
      exact w_iret rfl rfl ⟨_, rfl, H⟩
  have J96 : (a2 = 5) → wk iv L h0 d 48 96 [lr a0, lr a1, li a2] [] s (qi F) := fun h => by
    replace H := H.2.2.2.2.2.1 h
    refine w_aload_n rfl rfl ?_
    obtain ⟨g7, H⟩ := H
    refine c_getr rfl rfl rfl g7 ?_
    obtain ⟨g8, H⟩ := H
    refine c_len rfl g8 ?_
    exact w_iret rfl rfl ⟨_, rfl, H⟩
  have J102 : (a2 = 6) → wk iv L h0 d 48 102 [lr a0, lr a1, li a2] [] s (qi F) := fun h => by
    replace H := H.2.2.2.2.2.2.1 h
    refine w_aload_n rfl rfl ?_
    obtain ⟨g9, H⟩ := H
    refine c_get rfl rfl rfl g9 ?_
    exact w_iret rfl rfl ⟨_, rfl, H⟩
  have J107 : (a2 < 0 ∨ 6 < a2) → wk iv L h0 d 48 107 [lr a0, lr a1, li a2] [] s (qi F) := fun h => by
    replace H := H.2.2.2.2.2.2.2 h
    refine w_iconst (n := (-1)) rfl rfl ?_
    exact w_iret rfl rfl ⟨_, rfl, H⟩
  refine w_tsw (td := 107) (ts := [44, 49, 54, 59, 79, 96, 102]) rfl rfl rfl rfl rfl rfl (fun h => J107 (by omega)) ?_
  exact swA_c (fun h => J44 (by omega)) (swA_c (fun h => J49 (by omega)) (swA_c (fun h => J54 (by omega)) (swA_c (fun h => J59 (by omega)) (swA_c (fun h => J79 (by omega)) (swA_c (fun h => J96 (by omega)) (swA_c (fun h => J102 (by omega)) (swA_n)))))))

/-- HoleDesk.countNodes(Z)I -/
theorem C49 {iv : List (Int × Int)} {L : Nat} {h0 : MH} {d : Nat} {s : SC} {a0 : Nat} {a1 : Int} {F : Int → SC → Prop} (H : wk iv L h0 d 49 4 [lr a0, li a1, li 0, li 0] [] s (qi F)) : ck iv L h0 d 49 [vr a0, vi a1] s (qi F) := by
  show wk iv L h0 d 49 0 [lr a0, li a1] [] s (qi F)
  refine w_iconst (n := 0) rfl rfl ?_
  refine w_istore_n rfl rfl ?_
  refine w_iconst (n := 0) rfl rfl ?_
  refine w_istore_n rfl rfl ?_
  exact wp_ls (sl_s (sl_s (sl_s (sl_s (sl_0))))) H

/-- HoleDesk.countNodes(Z)I at 4 -/
theorem C49_4 {iv : List (Int × Int)} {L : Nat} {h0 : MH} {d : Nat} {s : SC} {l0 : Nat} {l1 : Int} {l2 : Int} {l3 : Int} {F : Int → SC → Prop} (H : (kl s l0 = 1) ∧ (kl s (fR s l0 1) = 8) ∧ ((fI s (fR s l0 1) 3 ≤ l3 → F l2 s) ∧ (l3 < fI s (fR s l0 1) 3 → (kl s (fR s (fR s l0 1) 0) = 103) ∧ (0 ≤ l3 ∧ l3 < le s (fR s (fR s l0 1) 0)) ∧ ((l1 = 0 → (kl s (aR s (fR s (fR s l0 1) 0) l3) = 5) ∧ ((fI s (aR s (fR s (fR s l0 1) 0) l3) 1 ≠ 0 → (-2147483648 ≤ l3 + 1 ∧ l3 + 1 ≤ 2147483647) ∧ wk iv L h0 d 49 4 [lr l0, li l1, li l2, li (l3 + 1)] [] s (qi F)) ∧ (fI s (aR s (fR s (fR s l0 1) 0) l3) 1 = 0 → (-2147483648 ≤ l2 + 1 ∧ l2 + 1 ≤ 2147483647) ∧ (-2147483648 ≤ l3 + 1 ∧ l3 + 1 ≤ 2147483647) ∧ wk iv L h0 d 49 4 [lr l0, li l1, li (l2 + 1), li (l3 + 1)] [] s (qi F)))) ∧ (l1 ≠ 0 → (kl s (aR s (fR s (fR s l0 1) 0) l3) = 5) ∧ ((fI s (aR s (fR s (fR s l0 1) 0) l3) 10 = 0 → (-2147483648 ≤ l3 + 1 ∧ l3 + 1 ≤ 2147483647) ∧ wk iv L h0 d 49 4 [lr l0, li l1, li l2, li (l3 + 1)] [] s (qi F)) ∧ (fI s (aR s (fR s (fR s l0 1) 0) l3) 10 ≠ 0 → (-2147483648 ≤ l2 + 1 ∧ l2 + 1 ≤ 2147483647) ∧ (-2147483648 ≤ l3 + 1 ∧ l3 + 1 ≤ 2147483647) ∧ wk iv L h0 d 49 4 [lr l0, li l1, li (l2 + 1), li (l3 + 1)] [] s (qi F)))))))) : wk iv L h0 d 49 4 [lr l0, li l1, li l2, li l3] [] s (qi F) := by
  refine w_iload_n rfl rfl ?_
  refine w_aload_n rfl rfl ?_
  obtain ⟨g1, H⟩ := H
  refine c_getr rfl rfl rfl g1 ?_
  obtain ⟨g2, H⟩ := H
  refine c_get rfl rfl rfl g2 ?_
  refine w_icmp_ge rfl (fun h => ?_) (fun h => ?_)
  · replace H := H.1 h
    refine w_iload_n rfl rfl ?_
    exact w_iret rfl rfl ⟨_, rfl, H⟩
  · replace H := H.2 h
    refine w_aload_n rfl rfl ?_
    refine c_getr rfl rfl rfl g1 ?_
    refine c_getr rfl rfl rfl g2 ?_
    refine w_iload_n rfl rfl ?_
    obtain ⟨g3, H⟩ := H
    obtain ⟨g4, H⟩ := H
    refine c_aald (t := 3) rfl ⟨g3, by decide, by decide⟩ g4 ?_
    refine w_astore rfl rfl ?_
    refine w_iload_n rfl rfl ?_
    refine w_if_eq rfl (fun h => ?_) (fun h => ?_)
    · replace H := H.1 h
      refine w_aload rfl rfl ?_
      obtain ⟨g5, H⟩ := H
      refine c_get rfl rfl rfl g5 ?_
      refine w_if_ne rfl (fun h => ?_) (fun h => ?_)
      · replace H := H.1 h
        obtain ⟨g6, H⟩ := H
        refine w_iinc rfl rfl rfl g6 ?_
        refine w_goto rfl ?_
        exact wp_ls (sl_s (sl_s (sl_s (sl_s (sl_0))))) H
      · replace H := H.2 h
        obtain ⟨g7, H⟩ := H
        refine w_iinc rfl rfl rfl g7 ?_
        obtain ⟨g8, H⟩ := H
        refine w_iinc rfl rfl rfl g8 ?_
        refine w_goto rfl ?_
        exact wp_ls (sl_s (sl_s (sl_s (sl_s (sl_0))))) H
    · replace H := H.2 h
      refine w_aload rfl rfl ?_
      obtain ⟨g9, H⟩ := H
      refine c_get rfl rfl rfl g9 ?_
      refine w_if_eq rfl (fun h => ?_) (fun h => ?_)
      · replace H := H.1 h
        obtain ⟨g10, H⟩ := H
        refine w_iinc rfl rfl rfl g10 ?_
        refine w_goto rfl ?_
        exact wp_ls (sl_s (sl_s (sl_s (sl_s (sl_0))))) H
      · replace H := H.2 h
        refine w_goto rfl ?_
        obtain ⟨g11, H⟩ := H
        refine w_iinc rfl rfl rfl g11 ?_
        obtain ⟨g12, H⟩ := H
        refine w_iinc rfl rfl rfl g12 ?_
        refine w_goto rfl ?_
        exact wp_ls (sl_s (sl_s (sl_s (sl_s (sl_0))))) H

/-- HoleDesk.countShelved()I -/
theorem C50 {iv : List (Int × Int)} {L : Nat} {h0 : MH} {d : Nat} {s : SC} {a0 : Nat} {F : Int → SC → Prop} (H : wk iv L h0 d 50 4 [lr a0, li 0, li 0] [] s (qi F)) : ck iv L h0 d 50 [vr a0] s (qi F) := by
  show wk iv L h0 d 50 0 [lr a0] [] s (qi F)
  refine w_iconst (n := 0) rfl rfl ?_
  refine w_istore_n rfl rfl ?_
  refine w_iconst (n := 0) rfl rfl ?_
  refine w_istore_n rfl rfl ?_
  exact wp_ls (sl_s (sl_s (sl_s (sl_0)))) H

/-- HoleDesk.countShelved()I at 4 -/
theorem C50_4 {iv : List (Int × Int)} {L : Nat} {h0 : MH} {d : Nat} {s : SC} {l0 : Nat} {l1 : Int} {l2 : Int} {F : Int → SC → Prop} (H : ((6 ≤ l2 → F l1 s) ∧ (l2 < 6 → (kl s l0 = 1) ∧ (kl s (fR s l0 6) = 105) ∧ (0 ≤ l2 ∧ l2 < le s (fR s l0 6)) ∧ (kl s (aR s (fR s l0 6) l2) = 2) ∧ (-2147483648 ≤ l1 + (fI s (aR s (fR s l0 6) l2) 5) ∧ l1 + (fI s (aR s (fR s l0 6) l2) 5) ≤ 2147483647) ∧ (-2147483648 ≤ l2 + 1 ∧ l2 + 1 ≤ 2147483647) ∧ wk iv L h0 d 50 4 [lr l0, li (l1 + (fI s (aR s (fR s l0 6) l2) 5)), li (l2 + 1)] [] s (qi F)))) : wk iv L h0 d 50 4 [lr l0, li l1, li l2] [] s (qi F) := by
  refine w_iload_n rfl rfl ?_
  refine w_bipush (n := 6) rfl rfl rfl ?_
  refine w_icmp_ge rfl (fun h => ?_) (fun h => ?_)
  · replace H := H.1 h
    refine w_iload_n rfl rfl ?_
    exact w_iret rfl rfl ⟨_, rfl, H⟩
  · replace H := H.2 h
    refine w_iload_n rfl rfl ?_
    refine w_aload_n rfl rfl ?_
    obtain ⟨g1, H⟩ := H
    refine c_getr rfl rfl rfl g1 ?_
    refine w_iload_n rfl rfl ?_
    obtain ⟨g2, H⟩ := H
    obtain ⟨g3, H⟩ := H
    refine c_aald (t := 5) rfl ⟨g2, by decide, by decide⟩ g3 ?_
    obtain ⟨g4, H⟩ := H
    refine c_get rfl rfl rfl g4 ?_
    obtain ⟨g5, H⟩ := H
    refine w_iadd rfl g5 ?_
    refine w_istore_n rfl rfl ?_
    obtain ⟨g6, H⟩ := H
    refine w_iinc rfl rfl rfl g6 ?_
    refine w_goto rfl ?_
    exact wp_ls (sl_s (sl_s (sl_s (sl_0)))) H

/-- HoleDesk.settle()V -/
theorem C51 {iv : List (Int × Int)} {L : Nat} {h0 : MH} {d : Nat} {s : SC} {a0 : Nat} {F : SC → Prop} (H : (kl s a0 = 1) ∧ (kl s (fR s a0 1) = 8) ∧ ck iv L h0 d 206 [vr (fR s a0 1)] s (qv fun s3 => (kl s3 a0 = 1) ∧ (kl s3 (fR s3 a0 1) = 8) ∧ (kl s3 (fR s3 a0 2) = 3) ∧ ck iv L h0 d 163 [vr (fR s3 a0 2), vr (fR s3 (fR s3 a0 1) 1)] s3 (qv fun s7 => F s7))) : ck iv L h0 (d + 1) 51 [vr a0] s (qv F) := by
  show wk iv L h0 (d + 1) 51 0 [lr a0] [] s (qv F)
  refine w_aload_n rfl rfl ?_
  obtain ⟨g1, H⟩ := H
  refine c_getr rfl rfl rfl g1 ?_
  obtain ⟨g2, H⟩ := H
  refine c_virt (p := (fR s a0 1)) (as := []) (r := []) rfl rfl rfl rfl rfl rfl g2 (wc_mono H (Nat.le_refl _) ?_)
  rintro _ s3 ⟨rfl, H⟩
  show wk iv L h0 (d + 1) 51 7 [lr a0] [] s3 (qv F)
  refine w_aload_n rfl rfl ?_
  obtain ⟨g4, H⟩ := H
  refine c_getr rfl rfl rfl g4 ?_
  refine w_aload_n rfl rfl ?_
  refine c_getr rfl rfl rfl g4 ?_
  obtain ⟨g5, H⟩ := H
  refine c_getr rfl rfl rfl g5 ?_
  obtain ⟨g6, H⟩ := H
  refine c_virt (p := (fR s3 a0 2)) (as := [vr (fR s3 (fR s3 a0 1) 1)]) (r := []) rfl rfl rfl rfl rfl rfl g6 (wc_mono H (Nat.le_refl _) ?_)
  rintro _ s7 ⟨rfl, H⟩
  show wk iv L h0 (d + 1) 51 21 [lr a0] [] s7 (qv F)
  exact w_ret rfl rfl ⟨rfl, H⟩

/-- HoleDesk.changed()V -/
theorem C52 {iv : List (Int × Int)} {L : Nat} {h0 : MH} {d : Nat} {s : SC} {a0 : Nat} {F : SC → Prop} (H : (kl s a0 = 1) ∧ ck iv L h0 d 51 [vr a0] (uI s a0 15 1) (qv fun s2 => F s2)) : ck iv L h0 (d + 1) 52 [vr a0] s (qv F) := by
  show wk iv L h0 (d + 1) 52 0 [lr a0] [] s (qv F)
  refine w_aload_n rfl rfl ?_
  refine w_iconst (n := 1) rfl rfl ?_
  obtain ⟨g1, H⟩ := H
  refine c_putz rfl rfl rfl rfl (by decide) g1 ?_
  refine w_aload_n rfl rfl ?_
  refine c_virt (p := a0) (as := []) (r := []) rfl rfl rfl rfl rfl rfl g1 (wc_mono H (Nat.le_refl _) ?_)
  rintro _ s2 ⟨rfl, H⟩
  show wk iv L h0 (d + 1) 52 9 [lr a0] [] s2 (qv F)
  exact w_ret rfl rfl ⟨rfl, H⟩

/-- HoleDesk.noteOutcome(I)I -/
theorem C53 {iv : List (Int × Int)} {L : Nat} {h0 : MH} {d : Nat} {s : SC} {a0 : Nat} {a1 : Int} {F : Int → SC → Prop} (H : (kl s a0 = 1) ∧ (kl s (fR s a0 1) = 8) ∧ ck iv L h0 d 217 [vr (fR s a0 1)] (uI s a0 15 0) (qv fun s3 => (kl s3 a0 = 1) ∧ (kl s3 (fR s3 a0 3) = 11) ∧ ((fR s3 (fR s3 a0 3) 6 = 2 → F a1 s3) ∧ (fR s3 (fR s3 a0 3) 6 ≠ 2 → (kl s3 (fR s3 a0 4) = 12) ∧ ck iv L h0 d 247 [vr (fR s3 a0 4), vr (fR s3 (fR s3 a0 3) 6)] s3 (qv fun s7 => F a1 s7))))) : ck iv L h0 (d + 1) 53 [vr a0, vi a1] s (qi F) := by
  show wk iv L h0 (d + 1) 53 0 [lr a0, li a1] [] s (qi F)
  refine w_aload_n rfl rfl ?_
  refine w_iconst (n := 0) rfl rfl ?_
  obtain ⟨g1, H⟩ := H
  refine c_putz rfl rfl rfl rfl (by decide) g1 ?_
  refine w_aload_n rfl rfl ?_
  refine c_getr rfl rfl rfl g1 ?_
  show wk iv L h0 (d + 1) 53 9 [lr a0, li a1] [vr (fR s a0 1)] (uI s a0 15 0) (qi F)
  obtain ⟨g2, H⟩ := H
  refine c_virt (p := (fR s a0 1)) (as := []) (r := []) rfl rfl rfl rfl rfl rfl g2 (wc_mono H (Nat.le_refl _) ?_)
  rintro _ s3 ⟨rfl, H⟩
  show wk iv L h0 (d + 1) 53 12 [lr a0, li a1] [] s3 (qi F)
  refine w_aload_n rfl rfl ?_
  obtain ⟨g4, H⟩ := H
  refine c_getr rfl rfl rfl g4 ?_
  obtain ⟨g5, H⟩ := H
  refine c_getr rfl rfl rfl g5 ?_
  refine c_null rfl (fun h => ?_) (fun h => ?_)
  · replace H := H.1 h
    refine w_iload_n rfl rfl ?_
    exact w_iret rfl rfl ⟨_, rfl, H⟩
  · replace H := H.2 h
    refine w_aload_n rfl rfl ?_
    refine c_getr rfl rfl rfl g4 ?_
    refine w_aload_n rfl rfl ?_
    refine c_getr rfl rfl rfl g4 ?_
    refine c_getr rfl rfl rfl g5 ?_
    obtain ⟨g6, H⟩ := H
    refine c_virt (p := (fR s3 a0 4)) (as := [vr (fR s3 (fR s3 a0 3) 6)]) (r := []) rfl rfl rfl rfl rfl rfl g6 (wc_mono H (Nat.le_refl _) ?_)
    rintro _ s7 ⟨rfl, H⟩
    show wk iv L h0 (d + 1) 53 36 [lr a0, li a1] [] s7 (qi F)
    refine w_iload_n rfl rfl ?_
    exact w_iret rfl rfl ⟨_, rfl, H⟩

/-- HoleDesk.leftHole(I)LHoleDesk$Value; -/
theorem C54 {iv : List (Int × Int)} {L : Nat} {h0 : MH} {d : Nat} {s : SC} {a0 : Nat} {a1 : Int} {F : Nat → SC → Prop} (H : (kl s a0 = 1) ∧ (kl s (fR s a0 3) = 11) ∧ ((fR s (fR s a0 3) 6 = 2 → F 2 s) ∧ (fR s (fR s a0 3) 6 ≠ 2 → ((a1 < 0 → F 2 s) ∧ (0 ≤ a1 → (kl s (fR s a0 4) = 12) ∧ ((a1 < fI s (fR s a0 4) 1 → (kl s (fR s (fR s a0 4) 0) = 106) ∧ (0 ≤ a1 ∧ a1 < le s (fR s (fR s a0 4) 0)) ∧ F (aR s (fR s (fR s a0 4) 0) a1) s) ∧ (fI s (fR s a0 4) 1 ≤ a1 → F 2 s))))))) : ck iv L h0 d 54 [vr a0, vi a1] s (qa F) := by
  show wk iv L h0 d 54 0 [lr a0, li a1] [] s (qa F)
  refine w_aload_n rfl rfl ?_
  obtain ⟨g1, H⟩ := H
  refine c_getr rfl rfl rfl g1 ?_
  obtain ⟨g2, H⟩ := H
  refine c_getr rfl rfl rfl g2 ?_
  refine c_null rfl (fun h => ?_) (fun h => ?_)
  · replace H := H.1 h
    refine w_null rfl ?_
    exact w_aret rfl rfl ⟨_, rfl, H⟩
  · replace H := H.2 h
    refine w_iload_n rfl rfl ?_
    refine w_if_lt rfl (fun h => ?_) (fun h => ?_)
    · replace H := H.1 h
      refine w_null rfl ?_
      exact w_aret rfl rfl ⟨_, rfl, H⟩
    · replace H := H.2 h
      refine w_iload_n rfl rfl ?_
      refine w_aload_n rfl rfl ?_
      refine c_getr rfl rfl rfl g1 ?_
      obtain ⟨g3, H⟩ := H
      refine c_get rfl rfl rfl g3 ?_
      refine w_icmp_lt rfl (fun h => ?_) (fun h => ?_)
      · replace H := H.1 h
        refine w_aload_n rfl rfl ?_
        refine c_getr rfl rfl rfl g1 ?_
        refine c_getr rfl rfl rfl g3 ?_
        refine w_iload_n rfl rfl ?_
        obtain ⟨g4, H⟩ := H
        obtain ⟨g5, H⟩ := H
        refine c_aald (t := 6) rfl ⟨g4, by decide, by decide⟩ g5 ?_
        exact w_aret rfl rfl ⟨_, rfl, H⟩
      · replace H := H.2 h
        refine w_null rfl ?_
        exact w_aret rfl rfl ⟨_, rfl, H⟩

/-- HoleDesk.trialOf(I)LHoleDesk$Node; -/
theorem C55 {iv : List (Int × Int)} {L : Nat} {h0 : MH} {d : Nat} {s : SC} {a1 : Int} {F : Nat → SC → Prop} (H : (353 ≤ nxt s) ∧ ck iv L h0 d 43 [vi a1] (nO s 4) (qi fun r3 s2 => ((r3 = 0 → ck iv L h0 d 44 [vi a1] s2 (qi fun r5 s4 => ((r5 = 0 → (nxt s ≠ 2) ∧ ck iv L h0 d 186 [vr (nxt s), vi (-9), vi a1, vi (-9), vi (-9)] s4 (qv fun s7 => wk iv L h0 (d + 1) 55 39 [ln, lr (nxt s), li 0] [] s7 (qa F))) ∧ (r5 ≠ 0 → (nxt s ≠ 2) ∧ ck iv L h0 d 186 [vr (nxt s), vi (-9), vi a1, vi (-9), vi 0] s4 (qv fun s9 => wk iv L h0 (d + 1) 55 39 [ln, lr (nxt s), li 0] [] s9 (qa F)))))) ∧ (r3 ≠ 0 → ck iv L h0 d 44 [vi a1] s2 (qi fun r11 s10 => ((r11 = 0 → (nxt s ≠ 2) ∧ ck iv L h0 d 186 [vr (nxt s), vi (-9), vi a1, vi 0, vi (-9)] s10 (qv fun s13 => wk iv L h0 (d + 1) 55 39 [ln, lr (nxt s), li 0] [] s13 (qa F))) ∧ (r11 ≠ 0 → (nxt s ≠ 2) ∧ ck iv L h0 d 186 [vr (nxt s), vi (-9), vi a1, vi 0, vi 0] s10 (qv fun s15 => wk iv L h0 (d + 1) 55 39 [ln, lr (nxt s), li 0] [] s15 (qa F))))))))) : ck iv L h0 (d + 1) 55 [vi a1] s (qa F) := by
  show wk iv L h0 (d + 1) 55 0 [li a1] [] s (qa F)
  obtain ⟨g1, H⟩ := H
  refine c_new rfl rfl g1 ?_
  show wk iv L h0 (d + 1) 55 3 [li a1] [vr (nxt s)] (nO s 4) (qa F)
  refine w_dup rfl rfl ?_
  refine w_bipush (n := (-9)) rfl rfl rfl ?_
  refine w_iload_n rfl rfl ?_
  refine w_iload_n rfl rfl ?_
  refine w_static (as := [vi a1]) (r := [vi a1, vi (-9), vr (nxt s), vr (nxt s)]) rfl rfl rfl rfl rfl (wc_mono H (Nat.le_refl _) ?_)
  rintro _ s2 ⟨r3, rfl, H⟩
  show wk iv L h0 (d + 1) 55 11 [li a1] [vi r3, vi a1, vi (-9), vr (nxt s), vr (nxt s)] s2 (qa F)
  refine w_if_eq rfl (fun h => ?_) (fun h => ?_)
  · replace H := H.1 h
    refine w_bipush (n := (-9)) rfl rfl rfl ?_
    refine w_iload_n rfl rfl ?_
    refine w_static (as := [vi a1]) (r := [vi (-9), vi a1, vi (-9), vr (nxt s), vr (nxt s)]) rfl rfl rfl rfl rfl (wc_mono H (Nat.le_refl _) ?_)
    rintro _ s4 ⟨r5, rfl, H⟩
    show wk iv L h0 (d + 1) 55 24 [li a1] [vi r5, vi (-9), vi a1, vi (-9), vr (nxt s), vr (nxt s)] s4 (qa F)
    refine w_if_eq rfl (fun h => ?_) (fun h => ?_)
    · replace H := H.1 h
      refine w_bipush (n := (-9)) rfl rfl rfl ?_
      obtain ⟨g6, H⟩ := H
      refine c_spec (p := (nxt s)) (as := [vi (-9), vi a1, vi (-9), vi (-9)]) (r := [vr (nxt s)]) rfl rfl rfl rfl rfl g6 (wc_mono H (Nat.le_refl _) ?_)
      rintro _ s7 ⟨rfl, H⟩
      show wk iv L h0 (d + 1) 55 36 [li a1] [vr (nxt s)] s7 (qa F)
      refine w_astore_n rfl rfl ?_
      refine w_iconst (n := 0) rfl rfl ?_
      refine w_istore_n rfl rfl ?_
      exact wp_ls (sl_n (sl_s (sl_s (sl_0)))) H
    · replace H := H.2 h
      refine w_iconst (n := 0) rfl rfl ?_
      refine w_goto rfl ?_
      obtain ⟨g8, H⟩ := H
      refine c_spec (p := (nxt s)) (as := [vi (-9), vi a1, vi (-9), vi 0]) (r := [vr (nxt s)]) rfl rfl rfl rfl rfl g8 (wc_mono H (Nat.le_refl _) ?_)
      rintro _ s9 ⟨rfl, H⟩
      show wk iv L h0 (d + 1) 55 36 [li a1] [vr (nxt s)] s9 (qa F)
      refine w_astore_n rfl rfl ?_
      refine w_iconst (n := 0) rfl rfl ?_
      refine w_istore_n rfl rfl ?_
      exact wp_ls (sl_n (sl_s (sl_s (sl_0)))) H
  · replace H := H.2 h
    refine w_iconst (n := 0) rfl rfl ?_
    refine w_goto rfl ?_
    refine w_iload_n rfl rfl ?_
    refine w_static (as := [vi a1]) (r := [vi 0, vi a1, vi (-9), vr (nxt s), vr (nxt s)]) rfl rfl rfl rfl rfl (wc_mono H (Nat.le_refl _) ?_)
    rintro _ s10 ⟨r11, rfl, H⟩
    show wk iv L h0 (d + 1) 55 24 [li a1] [vi r11, vi 0, vi a1, vi (-9), vr (nxt s), vr (nxt s)] s10 (qa F)
    refine w_if_eq rfl (fun h => ?_) (fun h => ?_)
    · replace H := H.1 h
      refine w_bipush (n := (-9)) rfl rfl rfl ?_
      obtain ⟨g12, H⟩ := H
      refine c_spec (p := (nxt s)) (as := [vi (-9), vi a1, vi 0, vi (-9)]) (r := [vr (nxt s)]) rfl rfl rfl rfl rfl g12 (wc_mono H (Nat.le_refl _) ?_)
      rintro _ s13 ⟨rfl, H⟩
      show wk iv L h0 (d + 1) 55 36 [li a1] [vr (nxt s)] s13 (qa F)
      refine w_astore_n rfl rfl ?_
      refine w_iconst (n := 0) rfl rfl ?_
      refine w_istore_n rfl rfl ?_
      exact wp_ls (sl_n (sl_s (sl_s (sl_0)))) H
    · replace H := H.2 h
      refine w_iconst (n := 0) rfl rfl ?_
      refine w_goto rfl ?_
      obtain ⟨g14, H⟩ := H
      refine c_spec (p := (nxt s)) (as := [vi (-9), vi a1, vi 0, vi 0]) (r := [vr (nxt s)]) rfl rfl rfl rfl rfl g14 (wc_mono H (Nat.le_refl _) ?_)
      rintro _ s15 ⟨rfl, H⟩
      show wk iv L h0 (d + 1) 55 36 [li a1] [vr (nxt s)] s15 (qa F)
      refine w_astore_n rfl rfl ?_
      refine w_iconst (n := 0) rfl rfl ?_
      refine w_istore_n rfl rfl ?_
      exact wp_ls (sl_n (sl_s (sl_s (sl_0)))) H

/-- HoleDesk.trialOf(I)LHoleDesk$Node; at 39 -/
theorem C55_39 {iv : List (Int × Int)} {L : Nat} {h0 : MH} {d : Nat} {s : SC} {l1 : Nat} {l2 : Int} {F : Nat → SC → Prop} (H : (kl s l1 = 5) ∧ (100 ≤ kl s (fR s l1 3) ∧ kl s (fR s l1 3) < 108) ∧ ((le s (fR s l1 3) ≤ l2 → F l1 s) ∧ (l2 < le s (fR s l1 3) → (353 ≤ nxt s) ∧ (nxt s ≠ 2) ∧ ck iv L h0 d 186 [vr (nxt s), vi (-9), vi 0, vi (-9), vi (-9)] (nO s 4) (qv fun s5 => (kl s5 l1 = 5) ∧ ck iv L h0 d 188 [vr l1, vi l2, vr (nxt s)] s5 (qv fun s7 => (-2147483648 ≤ l2 + 1 ∧ l2 + 1 ≤ 2147483647) ∧ wk iv L h0 (d + 1) 55 39 [ln, lr l1, li (l2 + 1)] [] s7 (qa F)))))) : wk iv L h0 (d + 1) 55 39 [ln, lr l1, li l2] [] s (qa F) := by
  refine w_iload_n rfl rfl ?_
  refine w_aload_n rfl rfl ?_
  obtain ⟨g1, H⟩ := H
  refine c_getr rfl rfl rfl g1 ?_
  obtain ⟨g2, H⟩ := H
  refine c_len rfl g2 ?_
  refine w_icmp_ge rfl (fun h => ?_) (fun h => ?_)
  · replace H := H.1 h
    refine w_aload_n rfl rfl ?_
    exact w_aret rfl rfl ⟨_, rfl, H⟩
  · replace H := H.2 h
    refine w_aload_n rfl rfl ?_
    refine w_iload_n rfl rfl ?_
    obtain ⟨g3, H⟩ := H
    refine c_new rfl rfl g3 ?_
    show wk iv L h0 (d + 1) 55 53 [ln, lr l1, li l2] [vr (nxt s), vi l2, vr l1] (nO s 4) (qa F)
    refine w_dup rfl rfl ?_
    refine w_bipush (n := (-9)) rfl rfl rfl ?_
    refine w_iconst (n := 0) rfl rfl ?_
    refine w_bipush (n := (-9)) rfl rfl rfl ?_
    refine w_bipush (n := (-9)) rfl rfl rfl ?_
    obtain ⟨g4, H⟩ := H
    refine c_spec (p := (nxt s)) (as := [vi (-9), vi 0, vi (-9), vi (-9)]) (r := [vr (nxt s), vi l2, vr l1]) rfl rfl rfl rfl rfl g4 (wc_mono H (Nat.le_refl _) ?_)
    rintro _ s5 ⟨rfl, H⟩
    show wk iv L h0 (d + 1) 55 64 [ln, lr l1, li l2] [vr (nxt s), vi l2, vr l1] s5 (qa F)
    obtain ⟨g6, H⟩ := H
    refine c_virt (p := l1) (as := [vi l2, vr (nxt s)]) (r := []) rfl rfl rfl rfl rfl rfl g6 (wc_mono H (Nat.le_refl _) ?_)
    rintro _ s7 ⟨rfl, H⟩
    show wk iv L h0 (d + 1) 55 67 [ln, lr l1, li l2] [] s7 (qa F)
    obtain ⟨g8, H⟩ := H
    refine w_iinc rfl rfl rfl g8 ?_
    refine w_goto rfl ?_
    exact wp_ls (sl_n (sl_s (sl_s (sl_0)))) H

/-- HoleDesk.nearestBinder(LHoleDesk$Node;ILHoleDesk$Node;I)LHoleDesk$Node; -/
theorem C56 {iv : List (Int × Int)} {L : Nat} {h0 : MH} {d : Nat} {s : SC} {a1 : Nat} {a2 : Int} {a3 : Nat} {a4 : Int} {F : Nat → SC → Prop} (H : (kl s a1 = 5) ∧ wk iv L h0 d 56 9 [ln, li a2, lr a3, li a4, lr a1, lr (fR s a1 5)] [] s (qa F)) : ck iv L h0 d 56 [vr a1, vi a2, vr a3, vi a4] s (qa F) := by
  show wk iv L h0 d 56 0 [lr a1, li a2, lr a3, li a4] [] s (qa F)
  refine w_aload_n rfl rfl ?_
  refine w_astore rfl rfl ?_
  refine w_aload_n rfl rfl ?_
  obtain ⟨g1, H⟩ := H
  refine c_getr rfl rfl rfl g1 ?_
  refine w_astore rfl rfl ?_
  exact wp_ls (sl_n (sl_s (sl_s (sl_s (sl_s (sl_s (sl_0))))))) H

/-- HoleDesk.nearestBinder(LHoleDesk$Node;ILHoleDesk$Node;I)LHoleDesk$Node; at 9 -/
theorem C56_9 {iv : List (Int × Int)} {L : Nat} {h0 : MH} {d : Nat} {s : SC} {l1 : Int} {l2 : Nat} {l3 : Int} {l4 : Nat} {l5 : Nat} {F : Nat → SC → Prop} (H : ((l5 = 2 → F 2 s) ∧ (l5 ≠ 2 → (kl s l5 = 5) ∧ ((fI s l5 1 = 8 → (l5 = 2 ∨ 64 ≤ l5) ∧ (l2 = 2 ∨ 64 ≤ l2) ∧ ((l5 ≠ l2 → ((fI s l5 4 ≠ l1 → wk iv L h0 d 56 9 [ln, li l1, lr l2, li l3, lr l5, lr (fR s l5 5)] [] s (qa F)) ∧ (fI s l5 4 = l1 → F l5 s))) ∧ (l5 = l2 → ((l3 ≠ l1 → wk iv L h0 d 56 9 [ln, li l1, lr l2, li l3, lr l5, lr (fR s l5 5)] [] s (qa F)) ∧ (l3 = l1 → F l5 s))))) ∧ (fI s l5 1 ≠ 8 → ((fI s l5 1 ≠ 10 → wk iv L h0 d 56 9 [ln, li l1, lr l2, li l3, lr l5, lr (fR s l5 5)] [] s (qa F)) ∧ (fI s l5 1 = 10 → (kl s l4 = 5) ∧ ((fI s l4 6 ≠ 1 → wk iv L h0 d 56 9 [ln, li l1, lr l2, li l3, lr l5, lr (fR s l5 5)] [] s (qa F)) ∧ (fI s l4 6 = 1 → (l5 = 2 ∨ 64 ≤ l5) ∧ (l2 = 2 ∨ 64 ≤ l2) ∧ ((l5 ≠ l2 → ((fI s l5 4 ≠ l1 → wk iv L h0 d 56 9 [ln, li l1, lr l2, li l3, lr l5, lr (fR s l5 5)] [] s (qa F)) ∧ (fI s l5 4 = l1 → F l5 s))) ∧ (l5 = l2 → ((l3 ≠ l1 → wk iv L h0 d 56 9 [ln, li l1, lr l2, li l3, lr l5, lr (fR s l5 5)] [] s (qa F)) ∧ (l3 = l1 → F l5 s))))))))))))) : wk iv L h0 d 56 9 [ln, li l1, lr l2, li l3, lr l4, lr l5] [] s (qa F) := by
  refine w_aload rfl rfl ?_
  refine c_null rfl (fun h => ?_) (fun h => ?_)
  · replace H := H.1 h
    refine w_null rfl ?_
    exact w_aret rfl rfl ⟨_, rfl, H⟩
  · replace H := H.2 h
    refine w_aload rfl rfl ?_
    obtain ⟨g1, H⟩ := H
    refine c_get rfl rfl rfl g1 ?_
    refine w_bipush (n := 8) rfl rfl rfl ?_
    refine w_icmp_eq rfl (fun h => ?_) (fun h => ?_)
    · replace H := H.1 h
      refine w_iconst (n := 1) rfl rfl ?_
      refine w_goto rfl ?_
      refine w_istore rfl rfl ?_
      refine w_iload rfl rfl ?_
      refine w_if_eq rfl (fun h => absurd h (by decide)) (fun _ => ?_)
      refine w_aload rfl rfl ?_
      refine w_aload_n rfl rfl ?_
      obtain ⟨g2, H⟩ := H
      obtain ⟨g3, H⟩ := H
      refine c_acmp_ne rfl g2 g3 (fun h => ?_) (fun h => ?_)
      · replace H := H.1 h
        refine w_aload rfl rfl ?_
        refine c_get rfl rfl rfl g1 ?_
        refine w_iload_n rfl rfl ?_
        refine w_icmp_ne rfl (fun h => ?_) (fun h => ?_)
        · replace H := H.1 h
          refine w_aload rfl rfl ?_
          refine w_astore rfl rfl ?_
          refine w_aload rfl rfl ?_
          refine c_getr rfl rfl rfl g1 ?_
          refine w_astore rfl rfl ?_
          refine w_goto rfl ?_
          exact wp_ls (sl_n (sl_s (sl_s (sl_s (sl_s (sl_s (sl_0))))))) H
        · replace H := H.2 h
          refine w_aload rfl rfl ?_
          exact w_aret rfl rfl ⟨_, rfl, H⟩
      · replace H := H.2 h
        refine w_iload_n rfl rfl ?_
        refine w_goto rfl ?_
        refine w_iload_n rfl rfl ?_
        refine w_icmp_ne rfl (fun h => ?_) (fun h => ?_)
        · replace H := H.1 h
          refine w_aload rfl rfl ?_
          refine w_astore rfl rfl ?_
          refine w_aload rfl rfl ?_
          refine c_getr rfl rfl rfl g1 ?_
          refine w_astore rfl rfl ?_
          refine w_goto rfl ?_
          exact wp_ls (sl_n (sl_s (sl_s (sl_s (sl_s (sl_s (sl_0))))))) H
        · replace H := H.2 h
          refine w_aload rfl rfl ?_
          exact w_aret rfl rfl ⟨_, rfl, H⟩
    · replace H := H.2 h
      refine w_aload rfl rfl ?_
      refine c_get rfl rfl rfl g1 ?_
      refine w_bipush (n := 10) rfl rfl rfl ?_
      refine w_icmp_ne rfl (fun h => ?_) (fun h => ?_)
      · replace H := H.1 h
        refine w_iconst (n := 0) rfl rfl ?_
        refine w_istore rfl rfl ?_
        refine w_iload rfl rfl ?_
        refine w_if_eq rfl (fun _ => ?_) (fun h => absurd h (by decide))
        refine w_aload rfl rfl ?_
        refine w_astore rfl rfl ?_
        refine w_aload rfl rfl ?_
        refine c_getr rfl rfl rfl g1 ?_
        refine w_astore rfl rfl ?_
        refine w_goto rfl ?_
        exact wp_ls (sl_n (sl_s (sl_s (sl_s (sl_s (sl_s (sl_0))))))) H
      · replace H := H.2 h
        refine w_aload rfl rfl ?_
        obtain ⟨g4, H⟩ := H
        refine c_get rfl rfl rfl g4 ?_
        refine w_iconst (n := 1) rfl rfl ?_
        refine w_icmp_ne rfl (fun h => ?_) (fun h => ?_)
        · replace H := H.1 h
          refine w_iconst (n := 0) rfl rfl ?_
          refine w_istore rfl rfl ?_
          refine w_iload rfl rfl ?_
          refine w_if_eq rfl (fun _ => ?_) (fun h => absurd h (by decide))
          refine w_aload rfl rfl ?_
          refine w_astore rfl rfl ?_
          refine w_aload rfl rfl ?_
          refine c_getr rfl rfl rfl g1 ?_
          refine w_astore rfl rfl ?_
          refine w_goto rfl ?_
          exact wp_ls (sl_n (sl_s (sl_s (sl_s (sl_s (sl_s (sl_0))))))) H
        · replace H := H.2 h
          refine w_iconst (n := 1) rfl rfl ?_
          refine w_goto rfl ?_
          refine w_istore rfl rfl ?_
          refine w_iload rfl rfl ?_
          refine w_if_eq rfl (fun h => absurd h (by decide)) (fun _ => ?_)
          refine w_aload rfl rfl ?_
          refine w_aload_n rfl rfl ?_
          obtain ⟨g5, H⟩ := H
          obtain ⟨g6, H⟩ := H
          refine c_acmp_ne rfl g5 g6 (fun h => ?_) (fun h => ?_)
          · replace H := H.1 h
            refine w_aload rfl rfl ?_
            refine c_get rfl rfl rfl g1 ?_
            refine w_iload_n rfl rfl ?_
            refine w_icmp_ne rfl (fun h => ?_) (fun h => ?_)
            · replace H := H.1 h
              refine w_aload rfl rfl ?_
              refine w_astore rfl rfl ?_
              refine w_aload rfl rfl ?_
              refine c_getr rfl rfl rfl g1 ?_
              refine w_astore rfl rfl ?_
              refine w_goto rfl ?_
              exact wp_ls (sl_n (sl_s (sl_s (sl_s (sl_s (sl_s (sl_0))))))) H
            · replace H := H.2 h
              refine w_aload rfl rfl ?_
              exact w_aret rfl rfl ⟨_, rfl, H⟩
          · replace H := H.2 h
            refine w_iload_n rfl rfl ?_
            refine w_goto rfl ?_
            refine w_iload_n rfl rfl ?_
            refine w_icmp_ne rfl (fun h => ?_) (fun h => ?_)
            · replace H := H.1 h
              refine w_aload rfl rfl ?_
              refine w_astore rfl rfl ?_
              refine w_aload rfl rfl ?_
              refine c_getr rfl rfl rfl g1 ?_
              refine w_astore rfl rfl ?_
              refine w_goto rfl ?_
              exact wp_ls (sl_n (sl_s (sl_s (sl_s (sl_s (sl_s (sl_0))))))) H
            · replace H := H.2 h
              refine w_aload rfl rfl ?_
              exact w_aret rfl rfl ⟨_, rfl, H⟩

/-- HoleDesk.listOffers()I -/
theorem C57 {iv : List (Int × Int)} {L : Nat} {h0 : MH} {d : Nat} {s : SC} {a0 : Nat} {F : Int → SC → Prop} (H : (kl s a0 = 1) ∧ (kl s (fR s a0 1) = 8) ∧ wk iv L h0 (d + 1) 57 12 [lr a0, lr (fR s (fR s a0 1) 2), li 0, li 0] [] s (qi F)) : ck iv L h0 (d + 1) 57 [vr a0] s (qi F) := by
  show wk iv L h0 (d + 1) 57 0 [lr a0] [] s (qi F)
  refine w_aload_n rfl rfl ?_
  obtain ⟨g1, H⟩ := H
  refine c_getr rfl rfl rfl g1 ?_
  obtain ⟨g2, H⟩ := H
  refine c_getr rfl rfl rfl g2 ?_
  refine w_astore_n rfl rfl ?_
  refine w_iconst (n := 0) rfl rfl ?_
  refine w_istore_n rfl rfl ?_
  refine w_iconst (n := 0) rfl rfl ?_
  refine w_istore_n rfl rfl ?_
  exact wp_ls (sl_s (sl_s (sl_s (sl_s (sl_0))))) H

/-- HoleDesk.listOffers()I at 12 -/
theorem C57_12 {iv : List (Int × Int)} {L : Nat} {h0 : MH} {d : Nat} {s : SC} {l0 : Nat} {l1 : Nat} {l2 : Int} {l3 : Int} {F : Int → SC → Prop} (H : ((26 ≤ l3 → wk iv L h0 (d + 1) 57 55 [lr l0, ln, li l2, li 1] [] s (qi F)) ∧ (l3 < 26 → ck iv L h0 d 56 [vr l1, vi l3, vr 2, vi (-9)] s (qa fun r2 s1 => ((r2 = 2 → (-2147483648 ≤ l3 + 1 ∧ l3 + 1 ≤ 2147483647) ∧ wk iv L h0 (d + 1) 57 12 [lr l0, lr l1, li l2, li (l3 + 1)] [] s1 (qi F)) ∧ (r2 ≠ 2 → (kl s1 l0 = 1) ∧ (kl s1 (fR s1 l0 7) = 103) ∧ ((0 : Int) ≤ 3 ∧ 3 < le s1 (fR s1 l0 7)) ∧ (kl s1 (aR s1 (fR s1 l0 7) 3) = 5) ∧ ck iv L h0 d 58 [vr l0, vi l2, vi 3, vi l3] (uI s1 (aR s1 (fR s1 l0 7) 3) 4 l3) (qi fun r9 s8 => (-2147483648 ≤ l3 + 1 ∧ l3 + 1 ≤ 2147483647) ∧ wk iv L h0 (d + 1) 57 12 [lr l0, lr l1, li r9, li (l3 + 1)] [] s8 (qi F)))))))) : wk iv L h0 (d + 1) 57 12 [lr l0, lr l1, li l2, li l3] [] s (qi F) := by
  refine w_iload_n rfl rfl ?_
  refine w_bipush (n := 26) rfl rfl rfl ?_
  refine w_icmp_ge rfl (fun h => ?_) (fun h => ?_)
  · replace H := H.1 h
    refine w_iconst (n := 1) rfl rfl ?_
    refine w_istore_n rfl rfl ?_
    exact wp_ls (sl_s (sl_n (sl_s (sl_s (sl_0))))) H
  · replace H := H.2 h
    refine w_aload_n rfl rfl ?_
    refine w_iload_n rfl rfl ?_
    refine w_null rfl ?_
    refine w_bipush (n := (-9)) rfl rfl rfl ?_
    refine w_static (as := [vr l1, vi l3, vr 2, vi (-9)]) (r := []) rfl rfl rfl rfl rfl (wc_mono H (Nat.le_refl _) ?_)
    rintro _ s1 ⟨r2, rfl, H⟩
    show wk iv L h0 (d + 1) 57 26 [lr l0, lr l1, li l2, li l3] [vr r2] s1 (qi F)
    refine c_null rfl (fun h => ?_) (fun h => ?_)
    · replace H := H.1 h
      obtain ⟨g3, H⟩ := H
      refine w_iinc rfl rfl rfl g3 ?_
      refine w_goto rfl ?_
      exact wp_ls (sl_s (sl_s (sl_s (sl_s (sl_0))))) H
    · replace H := H.2 h
      refine w_aload_n rfl rfl ?_
      obtain ⟨g4, H⟩ := H
      refine c_getr rfl rfl rfl g4 ?_
      refine w_iconst (n := 3) rfl rfl ?_
      obtain ⟨g5, H⟩ := H
      obtain ⟨g6, H⟩ := H
      refine c_aald (t := 3) rfl ⟨g5, by decide, by decide⟩ g6 ?_
      refine w_iload_n rfl rfl ?_
      obtain ⟨g7, H⟩ := H
      refine c_put rfl rfl rfl rfl g7 ?_
      refine w_aload_n rfl rfl ?_
      refine w_iload_n rfl rfl ?_
      refine w_iconst (n := 3) rfl rfl ?_
      refine w_iload_n rfl rfl ?_
      refine c_virt (p := l0) (as := [vi l2, vi 3, vi l3]) (r := []) rfl rfl rfl rfl rfl rfl g4 (wc_mono H (Nat.le_refl _) ?_)
      rintro _ s8 ⟨r9, rfl, H⟩
      show wk iv L h0 (d + 1) 57 46 [lr l0, lr l1, li l2, li l3] [vi r9] s8 (qi F)
      refine w_istore_n rfl rfl ?_
      obtain ⟨g10, H⟩ := H
      refine w_iinc rfl rfl rfl g10 ?_
      refine w_goto rfl ?_
      exact wp_ls (sl_s (sl_s (sl_s (sl_s (sl_0))))) H

/-- HoleDesk.listOffers()I at 55 -/
theorem C57_55 {iv : List (Int × Int)} {L : Nat} {h0 : MH} {d : Nat} {s : SC} {l0 : Nat} {l2 : Int} {l3 : Int} {F : Int → SC → Prop} (H : ((15 < l3 → F l2 s) ∧ (l3 ≤ 15 → ((l3 = 3 → (-2147483648 ≤ l3 + 1 ∧ l3 + 1 ≤ 2147483647) ∧ wk iv L h0 (d + 1) 57 55 [lr l0, ln, li l2, li (l3 + 1)] [] s (qi F)) ∧ (l3 ≠ 3 → (kl s l0 = 1) ∧ ck iv L h0 d 58 [vr l0, vi l2, vi l3, vi (-9)] s (qi fun r4 s3 => (-2147483648 ≤ l3 + 1 ∧ l3 + 1 ≤ 2147483647) ∧ wk iv L h0 (d + 1) 57 55 [lr l0, ln, li r4, li (l3 + 1)] [] s3 (qi F))))))) : wk iv L h0 (d + 1) 57 55 [lr l0, ln, li l2, li l3] [] s (qi F) := by
  refine w_iload_n rfl rfl ?_
  refine w_bipush (n := 15) rfl rfl rfl ?_
  refine w_icmp_gt rfl (fun h => ?_) (fun h => ?_)
  · replace H := H.1 h
    refine w_iload_n rfl rfl ?_
    exact w_iret rfl rfl ⟨_, rfl, H⟩
  · replace H := H.2 h
    refine w_iload_n rfl rfl ?_
    refine w_iconst (n := 3) rfl rfl ?_
    refine w_icmp_eq rfl (fun h => ?_) (fun h => ?_)
    · replace H := H.1 h
      obtain ⟨g1, H⟩ := H
      refine w_iinc rfl rfl rfl g1 ?_
      refine w_goto rfl ?_
      exact wp_ls (sl_s (sl_n (sl_s (sl_s (sl_0))))) H
    · replace H := H.2 h
      refine w_aload_n rfl rfl ?_
      refine w_iload_n rfl rfl ?_
      refine w_iload_n rfl rfl ?_
      refine w_bipush (n := (-9)) rfl rfl rfl ?_
      obtain ⟨g2, H⟩ := H
      refine c_virt (p := l0) (as := [vi l2, vi l3, vi (-9)]) (r := []) rfl rfl rfl rfl rfl rfl g2 (wc_mono H (Nat.le_refl _) ?_)
      rintro _ s3 ⟨r4, rfl, H⟩
      show wk iv L h0 (d + 1) 57 74 [lr l0, ln, li l2, li l3] [vi r4] s3 (qi F)
      refine w_istore_n rfl rfl ?_
      obtain ⟨g5, H⟩ := H
      refine w_iinc rfl rfl rfl g5 ?_
      refine w_goto rfl ?_
      exact wp_ls (sl_s (sl_n (sl_s (sl_s (sl_0))))) H

/-- HoleDesk.addOffer(III)I -/
theorem C58 {iv : List (Int × Int)} {L : Nat} {h0 : MH} {d : Nat} {s : SC} {a0 : Nat} {a1 : Int} {a2 : Int} {a3 : Int} {F : Int → SC → Prop} (H : (kl s a0 = 1) ∧ (kl s (fR s a0 7) = 103) ∧ (0 ≤ a2 ∧ a2 < le s (fR s a0 7)) ∧ (kl s (fR s a0 1) = 8) ∧ (kl s (fR s a0 2) = 3) ∧ ck iv L h0 d 164 [vr (fR s a0 2), vr (aR s (fR s a0 7) a2), vr (fR s (fR s a0 1) 2)] s (qi fun r7 s6 => ((r7 ≠ 0 → (kl s6 a0 = 1) ∧ (kl s6 (fR s6 a0 8) = 100) ∧ (0 ≤ a1 ∧ a1 < le s6 (fR s6 a0 8)) ∧ (kl s6 (fR s6 a0 9) = 100) ∧ (0 ≤ a1 ∧ a1 < le s6 (fR s6 a0 9)) ∧ (-2147483648 ≤ a1 + 1 ∧ a1 + 1 ≤ 2147483647) ∧ F (a1 + 1) (uA (uA s6 (fR s6 a0 8) a1 a2) (fR s6 a0 9) a1 a3)) ∧ (r7 = 0 → F a1 s6)))) : ck iv L h0 (d + 1) 58 [vr a0, vi a1, vi a2, vi a3] s (qi F) := by
  show wk iv L h0 (d + 1) 58 0 [lr a0, li a1, li a2, li a3] [] s (qi F)
  refine w_aload_n rfl rfl ?_
  obtain ⟨g1, H⟩ := H
  refine c_getr rfl rfl rfl g1 ?_
  refine w_aload_n rfl rfl ?_
  refine c_getr rfl rfl rfl g1 ?_
  refine w_iload_n rfl rfl ?_
  obtain ⟨g2, H⟩ := H
  obtain ⟨g3, H⟩ := H
  refine c_aald (t := 3) rfl ⟨g2, by decide, by decide⟩ g3 ?_
  refine w_aload_n rfl rfl ?_
  refine c_getr rfl rfl rfl g1 ?_
  obtain ⟨g4, H⟩ := H
  refine c_getr rfl rfl rfl g4 ?_
  obtain ⟨g5, H⟩ := H
  refine c_virt (p := (fR s a0 2)) (as := [vr (aR s (fR s a0 7) a2), vr (fR s (fR s a0 1) 2)]) (r := []) rfl rfl rfl rfl rfl rfl g5 (wc_mono H (Nat.le_refl _) ?_)
  rintro _ s6 ⟨r7, rfl, H⟩
  show wk iv L h0 (d + 1) 58 20 [lr a0, li a1, li a2, li a3] [vi r7] s6 (qi F)
  refine w_if_ne rfl (fun h => ?_) (fun h => ?_)
  · replace H := H.1 h
    refine w_aload_n rfl rfl ?_
    obtain ⟨g8, H⟩ := H
    refine c_getr rfl rfl rfl g8 ?_
    refine w_iload_n rfl rfl ?_
    refine w_iload_n rfl rfl ?_
    obtain ⟨g9, H⟩ := H
    obtain ⟨g10, H⟩ := H
    refine c_ast rfl g9 g10 ?_
    refine w_aload_n rfl rfl ?_
    refine c_getr rfl rfl rfl g8 ?_
    show wk iv L h0 (d + 1) 58 36 [lr a0, li a1, li a2, li a3] [vr (fR s6 a0 9)] (uA s6 (fR s6 a0 8) a1 a2) (qi F)
    refine w_iload_n rfl rfl ?_
    refine w_iload_n rfl rfl ?_
    obtain ⟨g11, H⟩ := H
    obtain ⟨g12, H⟩ := H
    refine c_ast rfl g11 g12 ?_
    refine w_iload_n rfl rfl ?_
    refine w_iconst (n := 1) rfl rfl ?_
    obtain ⟨g13, H⟩ := H
    refine w_iadd rfl g13 ?_
    exact w_iret rfl rfl ⟨_, rfl, H⟩
  · replace H := H.2 h
    refine w_iload_n rfl rfl ?_
    exact w_iret rfl rfl ⟨_, rfl, H⟩

/-- HoleDesk$Copy.<init>()V -/
theorem C159 {iv : List (Int × Int)} {L : Nat} {h0 : MH} {d : Nat} {s : SC} {a0 : Nat} {F : SC → Prop} (H : (a0 ≠ 2) ∧ (353 ≤ nxt s) ∧ (kl (nA s 0 60) a0 = 2) ∧ (353 ≤ nxt s + 1) ∧ (kl (nA (nA s 0 60) 0 60) a0 = 2) ∧ (353 ≤ nxt s + 2) ∧ (kl (nA (nA (nA s 0 60) 0 60) 0 60) a0 = 2) ∧ (353 ≤ nxt s + 3) ∧ (kl (nA (nA (nA (nA s 0 60) 0 60) 0 60) 0 60) a0 = 2) ∧ (353 ≤ nxt s + 4) ∧ (kl (nA (nA (nA (nA (nA s 0 60) 0 60) 0 60) 0 60) 0 60) a0 = 2) ∧ F (uI (uR (nA (uR (nA (uR (nA (uR (nA (uR (nA s 0 60) a0 0 (nxt s)) 0 60) a0 1 (nxt s + 1)) 0 60) a0 2 (nxt s + 2)) 0 60) a0 3 (nxt s + 3)) 0 60) a0 4 (nxt s + 4)) a0 5 0)) : ck iv L h0 d 159 [vr a0] s (qv F) := by
  show wk iv L h0 d 159 0 [lr a0] [] s (qv F)
  refine w_aload_n rfl rfl ?_
  obtain ⟨g1, H⟩ := H
  refine c_oinit rfl rfl g1 ?_
  refine w_aload_n rfl rfl ?_
  refine w_bipush (n := 60) rfl rfl rfl ?_
  obtain ⟨g2, H⟩ := H
  refine c_newa rfl rfl ⟨by decide, by decide⟩ g2 ?_
  show wk iv L h0 d 159 9 [lr a0] [vr (nxt s), vr a0] (nA s 0 60) (qv F)
  obtain ⟨g3, H⟩ := H
  refine c_putr rfl rfl rfl rfl g3 ?_
  refine w_aload_n rfl rfl ?_
  refine w_bipush (n := 60) rfl rfl rfl ?_
  obtain ⟨g4, H⟩ := H
  refine c_newa rfl rfl ⟨by decide, by decide⟩ g4 ?_
  show wk iv L h0 d 159 17 [lr a0] [vr (nxt s + 1), vr a0] (nA (uR (nA s 0 60) a0 0 (nxt s)) 0 60) (qv F)
  obtain ⟨g5, H⟩ := H
  refine c_putr rfl rfl rfl rfl g5 ?_
  refine w_aload_n rfl rfl ?_
  refine w_bipush (n := 60) rfl rfl rfl ?_
  obtain ⟨g6, H⟩ := H
  refine c_newa rfl rfl ⟨by decide, by decide⟩ g6 ?_
  show wk iv L h0 d 159 25 [lr a0] [vr (nxt s + 2), vr a0] (nA (uR (nA (uR (nA s 0 60) a0 0 (nxt s)) 0 60) a0 1 (nxt s + 1)) 0 60) (qv F)
  obtain ⟨g7, H⟩ := H
  refine c_putr rfl rfl rfl rfl g7 ?_
  refine w_aload_n rfl rfl ?_
  refine w_bipush (n := 60) rfl rfl rfl ?_
  obtain ⟨g8, H⟩ := H
  refine c_newa rfl rfl ⟨by decide, by decide⟩ g8 ?_
  show wk iv L h0 d 159 33 [lr a0] [vr (nxt s + 3), vr a0] (nA (uR (nA (uR (nA (uR (nA s 0 60) a0 0 (nxt s)) 0 60) a0 1 (nxt s + 1)) 0 60) a0 2 (nxt s + 2)) 0 60) (qv F)
  obtain ⟨g9, H⟩ := H
  refine c_putr rfl rfl rfl rfl g9 ?_
  refine w_aload_n rfl rfl ?_
  refine w_bipush (n := 60) rfl rfl rfl ?_
  obtain ⟨g10, H⟩ := H
  refine c_newa rfl rfl ⟨by decide, by decide⟩ g10 ?_
  show wk iv L h0 d 159 41 [lr a0] [vr (nxt s + 4), vr a0] (nA (uR (nA (uR (nA (uR (nA (uR (nA s 0 60) a0 0 (nxt s)) 0 60) a0 1 (nxt s + 1)) 0 60) a0 2 (nxt s + 2)) 0 60) a0 3 (nxt s + 3)) 0 60) (qv F)
  obtain ⟨g11, H⟩ := H
  refine c_putr rfl rfl rfl rfl g11 ?_
  refine w_aload_n rfl rfl ?_
  refine w_iconst (n := 0) rfl rfl ?_
  refine c_put rfl rfl rfl rfl g11 ?_
  exact w_ret rfl rfl ⟨rfl, H⟩
end
section
/-! What the methods of the desk come to. Printed by wip/gen2/gens.py. -/
/-- HoleDesk$Copy.copyOf(LHoleDesk$Sheet;LHoleDesk$Node;)V -/
theorem C160 {iv : List (Int × Int)} {L : Nat} {h0 : MH} {d : Nat} {s : SC} {a0 : Nat} {a1 : Nat} {a2 : Nat} {F : SC → Prop} (H : (kl s a1 = 8) ∧ ck iv L h0 d 209 [vr a1, vr a2] s (qi fun r3 s2 => (kl s2 a0 = 2) ∧ wk iv L h0 (d + 1) 160 11 [lr a0, lr a1, lr a2, li 0] [] (uI s2 a0 5 r3) (qv F))) : ck iv L h0 (d + 1) 160 [vr a0, vr a1, vr a2] s (qv F) := by
  show wk iv L h0 (d + 1) 160 0 [lr a0, lr a1, lr a2] [] s (qv F)
  refine w_aload_n rfl rfl ?_
  refine w_aload_n rfl rfl ?_
  refine w_aload_n rfl rfl ?_
  obtain ⟨g1, H⟩ := H
  refine c_virt (p := a1) (as := [vr a2]) (r := [vr a0]) rfl rfl rfl rfl rfl rfl g1 (wc_mono H (Nat.le_refl _) ?_)
  rintro _ s2 ⟨r3, rfl, H⟩
  show wk iv L h0 (d + 1) 160 6 [lr a0, lr a1, lr a2] [vi r3, vr a0] s2 (qv F)
  obtain ⟨g4, H⟩ := H
  refine c_put rfl rfl rfl rfl g4 ?_
  refine w_iconst (n := 0) rfl rfl ?_
  refine w_istore_n rfl rfl ?_
  exact wp_ls (sl_s (sl_s (sl_s (sl_s (sl_0))))) H

/-- HoleDesk$Copy.copyOf(LHoleDesk$Sheet;LHoleDesk$Node;)V at 11 -/
theorem C160_11 {iv : List (Int × Int)} {L : Nat} {h0 : MH} {d : Nat} {s : SC} {l0 : Nat} {l1 : Nat} {l2 : Nat} {l3 : Int} {F : SC → Prop} (H : (kl s l0 = 2) ∧ ((fI s l0 5 ≤ l3 → F s) ∧ (l3 < fI s l0 5 → (kl s l1 = 8) ∧ (kl s l2 = 5) ∧ (-2147483648 ≤ (fI s l2 7) + l3 ∧ (fI s l2 7) + l3 ≤ 2147483647) ∧ (kl s (fR s l1 0) = 103) ∧ (0 ≤ (fI s l2 7) + l3 ∧ (fI s l2 7) + l3 < le s (fR s l1 0)) ∧ (kl s (aR s (fR s l1 0) ((fI s l2 7) + l3)) = 5) ∧ (kl s (fR s l0 0) = 100) ∧ (0 ≤ l3 ∧ l3 < le s (fR s l0 0)) ∧ (kl s (fR s l0 1) = 100) ∧ (0 ≤ l3 ∧ l3 < le s (fR s l0 1)) ∧ (kl s (fR s l0 2) = 100) ∧ (0 ≤ l3 ∧ l3 < le s (fR s l0 2)) ∧ ((l3 ≠ 0 → (kl s (fR s (aR s (fR s l1 0) ((fI s l2 7) + l3)) 5) = 5) ∧ (-2147483648 ≤ (fI s (fR s (aR s (fR s l1 0) ((fI s l2 7) + l3)) 5) 7) - (fI s l2 7) ∧ (fI s (fR s (aR s (fR s l1 0) ((fI s l2 7) + l3)) 5) 7) - (fI s l2 7) ≤ 2147483647) ∧ (kl s (fR s l0 3) = 100) ∧ (0 ≤ l3 ∧ l3 < le s (fR s l0 3)) ∧ (kl s (fR s l0 4) = 100) ∧ (0 ≤ l3 ∧ l3 < le s (fR s l0 4)) ∧ (-2147483648 ≤ l3 + 1 ∧ l3 + 1 ≤ 2147483647) ∧ wk iv L h0 (d + 1) 160 11 [lr l0, lr l1, lr l2, li (l3 + 1)] [] (uA (uA (uA (uA (uA s (fR s l0 0) l3 (fI s (aR s (fR s l1 0) ((fI s l2 7) + l3)) 1)) (fR s l0 1) l3 (fI s (aR s (fR s l1 0) ((fI s l2 7) + l3)) 4)) (fR s l0 2) l3 (fI s (aR s (fR s l1 0) ((fI s l2 7) + l3)) 2)) (fR s l0 3) l3 ((fI s (fR s (aR s (fR s l1 0) ((fI s l2 7) + l3)) 5) 7) - (fI s l2 7))) (fR s l0 4) l3 (fI s (aR s (fR s l1 0) ((fI s l2 7) + l3)) 6)) (qv F)) ∧ (l3 = 0 → (kl s (fR s l0 3) = 100) ∧ (0 ≤ l3 ∧ l3 < le s (fR s l0 3)) ∧ (kl s (fR s l0 4) = 100) ∧ (0 ≤ l3 ∧ l3 < le s (fR s l0 4)) ∧ (-2147483648 ≤ l3 + 1 ∧ l3 + 1 ≤ 2147483647) ∧ wk iv L h0 (d + 1) 160 11 [lr l0, lr l1, lr l2, li (l3 + 1)] [] (uA (uA (uA (uA (uA s (fR s l0 0) l3 (fI s (aR s (fR s l1 0) ((fI s l2 7) + l3)) 1)) (fR s l0 1) l3 (fI s (aR s (fR s l1 0) ((fI s l2 7) + l3)) 4)) (fR s l0 2) l3 (fI s (aR s (fR s l1 0) ((fI s l2 7) + l3)) 2)) (fR s l0 3) l3 (-9)) (fR s l0 4) l3 (fI s (aR s (fR s l1 0) ((fI s l2 7) + l3)) 6)) (qv F)))))) : wk iv L h0 (d + 1) 160 11 [lr l0, lr l1, lr l2, li l3] [] s (qv F) := by
  refine w_iload_n rfl rfl ?_
  refine w_aload_n rfl rfl ?_
  obtain ⟨g1, H⟩ := H
  refine c_get rfl rfl rfl g1 ?_
  refine w_icmp_ge rfl (fun h => ?_) (fun h => ?_)
  · replace H := H.1 h
    exact w_ret rfl rfl ⟨rfl, H⟩
  · replace H := H.2 h
    refine w_aload_n rfl rfl ?_
    obtain ⟨g2, H⟩ := H
    refine c_getr rfl rfl rfl g2 ?_
    refine w_aload_n rfl rfl ?_
    obtain ⟨g3, H⟩ := H
    refine c_get rfl rfl rfl g3 ?_
    refine w_iload_n rfl rfl ?_
    obtain ⟨g4, H⟩ := H
    refine w_iadd rfl g4 ?_
    obtain ⟨g5, H⟩ := H
    obtain ⟨g6, H⟩ := H
    refine c_aald (t := 3) rfl ⟨g5, by decide, by decide⟩ g6 ?_
    refine w_astore rfl rfl ?_
    refine w_aload_n rfl rfl ?_
    refine c_getr rfl rfl rfl g1 ?_
    refine w_iload_n rfl rfl ?_
    refine w_aload rfl rfl ?_
    obtain ⟨g7, H⟩ := H
    refine c_get rfl rfl rfl g7 ?_
    obtain ⟨g8, H⟩ := H
    obtain ⟨g9, H⟩ := H
    refine c_ast rfl g8 g9 ?_
    refine w_aload_n rfl rfl ?_
    refine c_getr rfl rfl rfl g1 ?_
    show wk iv L h0 (d + 1) 160 47 [lr l0, lr l1, lr l2, li l3, lr (aR s (fR s l1 0) ((fI s l2 7) + l3))] [vr (fR s l0 1)] (uA s (fR s l0 0) l3 (fI s (aR s (fR s l1 0) ((fI s l2 7) + l3)) 1)) (qv F)
    refine w_iload_n rfl rfl ?_
    refine w_aload rfl rfl ?_
    refine c_get rfl rfl rfl g7 ?_
    show wk iv L h0 (d + 1) 160 53 [lr l0, lr l1, lr l2, li l3, lr (aR s (fR s l1 0) ((fI s l2 7) + l3))] [vi (fI s (aR s (fR s l1 0) ((fI s l2 7) + l3)) 4), vi l3, vr (fR s l0 1)] (uA s (fR s l0 0) l3 (fI s (aR s (fR s l1 0) ((fI s l2 7) + l3)) 1)) (qv F)
    obtain ⟨g10, H⟩ := H
    obtain ⟨g11, H⟩ := H
    refine c_ast rfl g10 g11 ?_
    refine w_aload_n rfl rfl ?_
    refine c_getr rfl rfl rfl g1 ?_
    show wk iv L h0 (d + 1) 160 58 [lr l0, lr l1, lr l2, li l3, lr (aR s (fR s l1 0) ((fI s l2 7) + l3))] [vr (fR s l0 2)] (uA (uA s (fR s l0 0) l3 (fI s (aR s (fR s l1 0) ((fI s l2 7) + l3)) 1)) (fR s l0 1) l3 (fI s (aR s (fR s l1 0) ((fI s l2 7) + l3)) 4)) (qv F)
    refine w_iload_n rfl rfl ?_
    refine w_aload rfl rfl ?_
    refine c_get rfl rfl rfl g7 ?_
    show wk iv L h0 (d + 1) 160 64 [lr l0, lr l1, lr l2, li l3, lr (aR s (fR s l1 0) ((fI s l2 7) + l3))] [vi (fI s (aR s (fR s l1 0) ((fI s l2 7) + l3)) 2), vi l3, vr (fR s l0 2)] (uA (uA s (fR s l0 0) l3 (fI s (aR s (fR s l1 0) ((fI s l2 7) + l3)) 1)) (fR s l0 1) l3 (fI s (aR s (fR s l1 0) ((fI s l2 7) + l3)) 4)) (qv F)
    obtain ⟨g12, H⟩ := H
    obtain ⟨g13, H⟩ := H
    refine c_ast rfl g12 g13 ?_
    refine w_aload_n rfl rfl ?_
    refine c_getr rfl rfl rfl g1 ?_
    show wk iv L h0 (d + 1) 160 69 [lr l0, lr l1, lr l2, li l3, lr (aR s (fR s l1 0) ((fI s l2 7) + l3))] [vr (fR s l0 3)] (uA (uA (uA s (fR s l0 0) l3 (fI s (aR s (fR s l1 0) ((fI s l2 7) + l3)) 1)) (fR s l0 1) l3 (fI s (aR s (fR s l1 0) ((fI s l2 7) + l3)) 4)) (fR s l0 2) l3 (fI s (aR s (fR s l1 0) ((fI s l2 7) + l3)) 2)) (qv F)
    refine w_iload_n rfl rfl ?_
    refine w_iload_n rfl rfl ?_
    refine w_if_ne rfl (fun h => ?_) (fun h => ?_)
    · replace H := H.1 h
      refine w_aload rfl rfl ?_
      refine c_getr rfl rfl rfl g7 ?_
      show wk iv L h0 (d + 1) 160 84 [lr l0, lr l1, lr l2, li l3, lr (aR s (fR s l1 0) ((fI s l2 7) + l3))] [vr (fR s (aR s (fR s l1 0) ((fI s l2 7) + l3)) 5), vi l3, vr (fR s l0 3)] (uA (uA (uA s (fR s l0 0) l3 (fI s (aR s (fR s l1 0) ((fI s l2 7) + l3)) 1)) (fR s l0 1) l3 (fI s (aR s (fR s l1 0) ((fI s l2 7) + l3)) 4)) (fR s l0 2) l3 (fI s (aR s (fR s l1 0) ((fI s l2 7) + l3)) 2)) (qv F)
      obtain ⟨g14, H⟩ := H
      refine c_get rfl rfl rfl g14 ?_
      show wk iv L h0 (d + 1) 160 87 [lr l0, lr l1, lr l2, li l3, lr (aR s (fR s l1 0) ((fI s l2 7) + l3))] [vi (fI s (fR s (aR s (fR s l1 0) ((fI s l2 7) + l3)) 5) 7), vi l3, vr (fR s l0 3)] (uA (uA (uA s (fR s l0 0) l3 (fI s (aR s (fR s l1 0) ((fI s l2 7) + l3)) 1)) (fR s l0 1) l3 (fI s (aR s (fR s l1 0) ((fI s l2 7) + l3)) 4)) (fR s l0 2) l3 (fI s (aR s (fR s l1 0) ((fI s l2 7) + l3)) 2)) (qv F)
      refine w_aload_n rfl rfl ?_
      refine c_get rfl rfl rfl g3 ?_
      show wk iv L h0 (d + 1) 160 91 [lr l0, lr l1, lr l2, li l3, lr (aR s (fR s l1 0) ((fI s l2 7) + l3))] [vi (fI s l2 7), vi (fI s (fR s (aR s (fR s l1 0) ((fI s l2 7) + l3)) 5) 7), vi l3, vr (fR s l0 3)] (uA (uA (uA s (fR s l0 0) l3 (fI s (aR s (fR s l1 0) ((fI s l2 7) + l3)) 1)) (fR s l0 1) l3 (fI s (aR s (fR s l1 0) ((fI s l2 7) + l3)) 4)) (fR s l0 2) l3 (fI s (aR s (fR s l1 0) ((fI s l2 7) + l3)) 2)) (qv F)
      obtain ⟨g15, H⟩ := H
      refine w_isub rfl g15 ?_
      obtain ⟨g16, H⟩ := H
      obtain ⟨g17, H⟩ := H
      refine c_ast rfl g16 g17 ?_
      refine w_aload_n rfl rfl ?_
      refine c_getr rfl rfl rfl g1 ?_
      show wk iv L h0 (d + 1) 160 97 [lr l0, lr l1, lr l2, li l3, lr (aR s (fR s l1 0) ((fI s l2 7) + l3))] [vr (fR s l0 4)] (uA (uA (uA (uA s (fR s l0 0) l3 (fI s (aR s (fR s l1 0) ((fI s l2 7) + l3)) 1)) (fR s l0 1) l3 (fI s (aR s (fR s l1 0) ((fI s l2 7) + l3)) 4)) (fR s l0 2) l3 (fI s (aR s (fR s l1 0) ((fI s l2 7) + l3)) 2)) (fR s l0 3) l3 ((fI s (fR s (aR s (fR s l1 0) ((fI s l2 7) + l3)) 5) 7) - (fI s l2 7))) (qv F)
      refine w_iload_n rfl rfl ?_
      refine w_aload rfl rfl ?_
      refine c_get rfl rfl rfl g7 ?_
      show wk iv L h0 (d + 1) 160 103 [lr l0, lr l1, lr l2, li l3, lr (aR s (fR s l1 0) ((fI s l2 7) + l3))] [vi (fI s (aR s (fR s l1 0) ((fI s l2 7) + l3)) 6), vi l3, vr (fR s l0 4)] (uA (uA (uA (uA s (fR s l0 0) l3 (fI s (aR s (fR s l1 0) ((fI s l2 7) + l3)) 1)) (fR s l0 1) l3 (fI s (aR s (fR s l1 0) ((fI s l2 7) + l3)) 4)) (fR s l0 2) l3 (fI s (aR s (fR s l1 0) ((fI s l2 7) + l3)) 2)) (fR s l0 3) l3 ((fI s (fR s (aR s (fR s l1 0) ((fI s l2 7) + l3)) 5) 7) - (fI s l2 7))) (qv F)
      obtain ⟨g18, H⟩ := H
      obtain ⟨g19, H⟩ := H
      refine c_ast rfl g18 g19 ?_
      obtain ⟨g20, H⟩ := H
      refine w_iinc rfl rfl rfl g20 ?_
      refine w_goto rfl ?_
      exact wp_ls (sl_s (sl_s (sl_s (sl_s (sl_0))))) H
    · replace H := H.2 h
      refine w_bipush (n := (-9)) rfl rfl rfl ?_
      refine w_goto rfl ?_
      obtain ⟨g21, H⟩ := H
      obtain ⟨g22, H⟩ := H
      refine c_ast rfl g21 g22 ?_
      refine w_aload_n rfl rfl ?_
      refine c_getr rfl rfl rfl g1 ?_
      show wk iv L h0 (d + 1) 160 97 [lr l0, lr l1, lr l2, li l3, lr (aR s (fR s l1 0) ((fI s l2 7) + l3))] [vr (fR s l0 4)] (uA (uA (uA (uA s (fR s l0 0) l3 (fI s (aR s (fR s l1 0) ((fI s l2 7) + l3)) 1)) (fR s l0 1) l3 (fI s (aR s (fR s l1 0) ((fI s l2 7) + l3)) 4)) (fR s l0 2) l3 (fI s (aR s (fR s l1 0) ((fI s l2 7) + l3)) 2)) (fR s l0 3) l3 (-9)) (qv F)
      refine w_iload_n rfl rfl ?_
      refine w_aload rfl rfl ?_
      refine c_get rfl rfl rfl g7 ?_
      show wk iv L h0 (d + 1) 160 103 [lr l0, lr l1, lr l2, li l3, lr (aR s (fR s l1 0) ((fI s l2 7) + l3))] [vi (fI s (aR s (fR s l1 0) ((fI s l2 7) + l3)) 6), vi l3, vr (fR s l0 4)] (uA (uA (uA (uA s (fR s l0 0) l3 (fI s (aR s (fR s l1 0) ((fI s l2 7) + l3)) 1)) (fR s l0 1) l3 (fI s (aR s (fR s l1 0) ((fI s l2 7) + l3)) 4)) (fR s l0 2) l3 (fI s (aR s (fR s l1 0) ((fI s l2 7) + l3)) 2)) (fR s l0 3) l3 (-9)) (qv F)
      obtain ⟨g23, H⟩ := H
      obtain ⟨g24, H⟩ := H
      refine c_ast rfl g23 g24 ?_
      obtain ⟨g25, H⟩ := H
      refine w_iinc rfl rfl rfl g25 ?_
      refine w_goto rfl ?_
      exact wp_ls (sl_s (sl_s (sl_s (sl_s (sl_0))))) H

/-- HoleDesk$Copy.bornInto(LHoleDesk$Sheet;)LHoleDesk$Node; -/
theorem C161 {iv : List (Int × Int)} {L : Nat} {h0 : MH} {d : Nat} {s : SC} {a0 : Nat} {a1 : Nat} {F : Nat → SC → Prop} (H : (kl s a0 = 2) ∧ (0 ≤ fI s a0 5 ∧ fI s a0 5 ≤ 67108864) ∧ (353 ≤ nxt s) ∧ wk iv L h0 (d + 1) 161 10 [lr a0, lr a1, lr (nxt s), li 0] [] (nA s 3 (fI s a0 5)) (qa F)) : ck iv L h0 (d + 1) 161 [vr a0, vr a1] s (qa F) := by
  show wk iv L h0 (d + 1) 161 0 [lr a0, lr a1] [] s (qa F)
  refine w_aload_n rfl rfl ?_
  obtain ⟨g1, H⟩ := H
  refine c_get rfl rfl rfl g1 ?_
  obtain ⟨g2, H⟩ := H
  obtain ⟨g3, H⟩ := H
  refine c_anewa rfl rfl g2 g3 ?_
  show wk iv L h0 (d + 1) 161 7 [lr a0, lr a1] [vr (nxt s)] (nA s 3 (fI s a0 5)) (qa F)
  refine w_astore_n rfl rfl ?_
  refine w_iconst (n := 0) rfl rfl ?_
  refine w_istore_n rfl rfl ?_
  exact wp_ls (sl_s (sl_s (sl_s (sl_s (sl_0))))) H

/-- HoleDesk$Copy.bornInto(LHoleDesk$Sheet;)LHoleDesk$Node; at 10 -/
theorem C161_10 {iv : List (Int × Int)} {L : Nat} {h0 : MH} {d : Nat} {s : SC} {l0 : Nat} {l1 : Nat} {l2 : Nat} {l3 : Int} {F : Nat → SC → Prop} (H : (kl s l0 = 2) ∧ ((fI s l0 5 ≤ l3 → ((fI s l0 5 ≤ 0 → F 2 s) ∧ (0 < fI s l0 5 → (kl s l2 = 103) ∧ ((0 : Int) ≤ 0 ∧ 0 < le s l2) ∧ F (aR s l2 0) s))) ∧ (l3 < fI s l0 5 → (kl s (fR s l0 0) = 100) ∧ (0 ≤ l3 ∧ l3 < le s (fR s l0 0)) ∧ (kl s (fR s l0 1) = 100) ∧ (0 ≤ l3 ∧ l3 < le s (fR s l0 1)) ∧ (kl s (fR s l0 2) = 100) ∧ (0 ≤ l3 ∧ l3 < le s (fR s l0 2)) ∧ (kl s l1 = 8) ∧ ck iv L h0 d 204 [vr l1, vi (aI s (fR s l0 0) l3), vi (aI s (fR s l0 1) l3), vi (aI s (fR s l0 2) l3)] s (qa fun r12 s11 => (kl s11 l2 = 103) ∧ (0 ≤ l3 ∧ l3 < le s11 l2) ∧ (r12 = 2 ∨ kl s11 r12 = 5) ∧ ((l3 ≤ 0 → (-2147483648 ≤ l3 + 1 ∧ l3 + 1 ≤ 2147483647) ∧ wk iv L h0 (d + 1) 161 10 [lr l0, lr l1, lr l2, li (l3 + 1)] [] (uB s11 l2 l3 r12) (qa F)) ∧ (0 < l3 → (kl s11 l0 = 2) ∧ (kl s11 (fR s11 l0 3) = 100) ∧ (0 ≤ l3 ∧ l3 < le s11 (fR s11 l0 3)) ∧ (0 ≤ aI s11 (fR s11 l0 3) l3 ∧ aI s11 (fR s11 l0 3) l3 < le s11 l2) ∧ (kl s11 (fR s11 l0 4) = 100) ∧ (0 ≤ l3 ∧ l3 < le s11 (fR s11 l0 4)) ∧ (kl s11 (aR (uB s11 l2 l3 r12) l2 (aI s11 (fR s11 l0 3) l3)) = 5) ∧ ck iv L h0 d 188 [vr (aR (uB s11 l2 l3 r12) l2 (aI s11 (fR s11 l0 3) l3)), vi (aI s11 (fR s11 l0 4) l3), vr (aR (uB s11 l2 l3 r12) l2 l3)] (uB s11 l2 l3 r12) (qv fun s24 => (-2147483648 ≤ l3 + 1 ∧ l3 + 1 ≤ 2147483647) ∧ wk iv L h0 (d + 1) 161 10 [lr l0, lr l1, lr l2, li (l3 + 1)] [] s24 (qa F)))))))) : wk iv L h0 (d + 1) 161 10 [lr l0, lr l1, lr l2, li l3] [] s (qa F) := by
  refine w_iload_n rfl rfl ?_
  refine w_aload_n rfl rfl ?_
  obtain ⟨g1, H⟩ := H
  refine c_get rfl rfl rfl g1 ?_
  refine w_icmp_ge rfl (fun h => ?_) (fun h => ?_)
  · replace H := H.1 h
    refine w_aload_n rfl rfl ?_
    refine c_get rfl rfl rfl g1 ?_
    refine w_if_le rfl (fun h => ?_) (fun h => ?_)
    · replace H := H.1 h
      refine w_null rfl ?_
      exact w_aret rfl rfl ⟨_, rfl, H⟩
    · replace H := H.2 h
      refine w_aload_n rfl rfl ?_
      refine w_iconst (n := 0) rfl rfl ?_
      obtain ⟨g2, H⟩ := H
      obtain ⟨g3, H⟩ := H
      refine c_aald (t := 3) rfl ⟨g2, by decide, by decide⟩ g3 ?_
      refine w_goto rfl ?_
      exact w_aret rfl rfl ⟨_, rfl, H⟩
  · replace H := H.2 h
    refine w_aload_n rfl rfl ?_
    refine w_iload_n rfl rfl ?_
    refine w_aload_n rfl rfl ?_
    refine w_aload_n rfl rfl ?_
    refine c_getr rfl rfl rfl g1 ?_
    refine w_iload_n rfl rfl ?_
    obtain ⟨g4, H⟩ := H
    obtain ⟨g5, H⟩ := H
    refine c_ald rfl g4 g5 ?_
    refine w_aload_n rfl rfl ?_
    refine c_getr rfl rfl rfl g1 ?_
    refine w_iload_n rfl rfl ?_
    obtain ⟨g6, H⟩ := H
    obtain ⟨g7, H⟩ := H
    refine c_ald rfl g6 g7 ?_
    refine w_aload_n rfl rfl ?_
    refine c_getr rfl rfl rfl g1 ?_
    refine w_iload_n rfl rfl ?_
    obtain ⟨g8, H⟩ := H
    obtain ⟨g9, H⟩ := H
    refine c_ald rfl g8 g9 ?_
    obtain ⟨g10, H⟩ := H
    refine c_virt (p := l1) (as := [vi (aI s (fR s l0 0) l3), vi (aI s (fR s l0 1) l3), vi (aI s (fR s l0 2) l3)]) (r := [vi l3, vr l2]) rfl rfl rfl rfl rfl rfl g10 (wc_mono H (Nat.le_refl _) ?_)
    rintro _ s11 ⟨r12, rfl, H⟩
    show wk iv L h0 (d + 1) 161 42 [lr l0, lr l1, lr l2, li l3] [vr r12, vi l3, vr l2] s11 (qa F)
    obtain ⟨g13, H⟩ := H
    obtain ⟨g14, H⟩ := H
    obtain ⟨g15, H⟩ := H
    refine c_aast rfl rfl g13 g14 (by rcases g15 with e | e; exact Or.inl e; exact Or.inr ⟨e, by decide⟩) ?_
    refine w_iload_n rfl rfl ?_
    refine w_if_le rfl (fun h => ?_) (fun h => ?_)
    · replace H := H.1 h
      obtain ⟨g16, H⟩ := H
      refine w_iinc rfl rfl rfl g16 ?_
      refine w_goto rfl ?_
      exact wp_ls (sl_s (sl_s (sl_s (sl_s (sl_0))))) H
    · replace H := H.2 h
      refine w_aload_n rfl rfl ?_
      refine w_aload_n rfl rfl ?_
      obtain ⟨g17, H⟩ := H
      refine c_getr rfl rfl rfl g17 ?_
      show wk iv L h0 (d + 1) 161 52 [lr l0, lr l1, lr l2, li l3] [vr (fR s11 l0 3), vr l2] (uB s11 l2 l3 r12) (qa F)
      refine w_iload_n rfl rfl ?_
      obtain ⟨g18, H⟩ := H
      obtain ⟨g19, H⟩ := H
      refine c_ald rfl g18 g19 ?_
      show wk iv L h0 (d + 1) 161 54 [lr l0, lr l1, lr l2, li l3] [vi (aI s11 (fR s11 l0 3) l3), vr l2] (uB s11 l2 l3 r12) (qa F)
      obtain ⟨g20, H⟩ := H
      refine c_aald (t := 3) rfl ⟨g13, by decide, by decide⟩ g20 ?_
      show wk iv L h0 (d + 1) 161 55 [lr l0, lr l1, lr l2, li l3] [vr (aR (uB s11 l2 l3 r12) l2 (aI s11 (fR s11 l0 3) l3))] (uB s11 l2 l3 r12) (qa F)
      refine w_aload_n rfl rfl ?_
      refine c_getr rfl rfl rfl g17 ?_
      show wk iv L h0 (d + 1) 161 59 [lr l0, lr l1, lr l2, li l3] [vr (fR s11 l0 4), vr (aR (uB s11 l2 l3 r12) l2 (aI s11 (fR s11 l0 3) l3))] (uB s11 l2 l3 r12) (qa F)
      refine w_iload_n rfl rfl ?_
      obtain ⟨g21, H⟩ := H
      obtain ⟨g22, H⟩ := H
      refine c_ald rfl g21 g22 ?_
      show wk iv L h0 (d + 1) 161 61 [lr l0, lr l1, lr l2, li l3] [vi (aI s11 (fR s11 l0 4) l3), vr (aR (uB s11 l2 l3 r12) l2 (aI s11 (fR s11 l0 3) l3))] (uB s11 l2 l3 r12) (qa F)
      refine w_aload_n rfl rfl ?_
      refine w_iload_n rfl rfl ?_
      refine c_aald (t := 3) rfl ⟨g13, by decide, by decide⟩ g14 ?_
      show wk iv L h0 (d + 1) 161 64 [lr l0, lr l1, lr l2, li l3] [vr (aR (uB s11 l2 l3 r12) l2 l3), vi (aI s11 (fR s11 l0 4) l3), vr (aR (uB s11 l2 l3 r12) l2 (aI s11 (fR s11 l0 3) l3))] (uB s11 l2 l3 r12) (qa F)
      obtain ⟨g23, H⟩ := H
      refine c_virt (p := (aR (uB s11 l2 l3 r12) l2 (aI s11 (fR s11 l0 3) l3))) (as := [vi (aI s11 (fR s11 l0 4) l3), vr (aR (uB s11 l2 l3 r12) l2 l3)]) (r := []) rfl rfl rfl rfl rfl rfl g23 (wc_mono H (Nat.le_refl _) ?_)
      rintro _ s24 ⟨rfl, H⟩
      show wk iv L h0 (d + 1) 161 67 [lr l0, lr l1, lr l2, li l3] [] s24 (qa F)
      obtain ⟨g25, H⟩ := H
      refine w_iinc rfl rfl rfl g25 ?_
      refine w_goto rfl ?_
      exact wp_ls (sl_s (sl_s (sl_s (sl_s (sl_0))))) H

/-- HoleDesk$Judge.<init>(LHoleDesk$Kinds;)V -/
theorem C162 {iv : List (Int × Int)} {L : Nat} {h0 : MH} {d : Nat} {s : SC} {a0 : Nat} {a1 : Nat} {F : SC → Prop} (H : (a0 ≠ 2) ∧ (kl s a0 = 3) ∧ F (uR s a0 0 a1)) : ck iv L h0 d 162 [vr a0, vr a1] s (qv F) := by
  show wk iv L h0 d 162 0 [lr a0, lr a1] [] s (qv F)
  refine w_aload_n rfl rfl ?_
  obtain ⟨g1, H⟩ := H
  refine c_oinit rfl rfl g1 ?_
  refine w_aload_n rfl rfl ?_
  refine w_aload_n rfl rfl ?_
  obtain ⟨g2, H⟩ := H
  refine c_putr rfl rfl rfl rfl g2 ?_
  exact w_ret rfl rfl ⟨rfl, H⟩

/-- HoleDesk$Judge.judgeAll(LHoleDesk$Node;)V -/
theorem C163 {iv : List (Int × Int)} {L : Nat} {h0 : MH} {d : Nat} {s : SC} {a0 : Nat} {a1 : Nat} {F : SC → Prop} (H : (kl s a0 = 3) ∧ (kl s (fR s a0 0) = 4) ∧ ck iv L h0 d 180 [vr (fR s a0 0)] s (qv fun s3 => (kl s3 a0 = 3) ∧ ck iv L h0 d 165 [vr a0, vr a1, vi (-1), vi 0] s3 (qi fun r6 s5 => F s5))) : ck iv L h0 (d + 1) 163 [vr a0, vr a1] s (qv F) := by
  show wk iv L h0 (d + 1) 163 0 [lr a0, lr a1] [] s (qv F)
  refine w_aload_n rfl rfl ?_
  obtain ⟨g1, H⟩ := H
  refine c_getr rfl rfl rfl g1 ?_
  obtain ⟨g2, H⟩ := H
  refine c_virt (p := (fR s a0 0)) (as := []) (r := []) rfl rfl rfl rfl rfl rfl g2 (wc_mono H (Nat.le_refl _) ?_)
  rintro _ s3 ⟨rfl, H⟩
  show wk iv L h0 (d + 1) 163 7 [lr a0, lr a1] [] s3 (qv F)
  refine w_aload_n rfl rfl ?_
  refine w_aload_n rfl rfl ?_
  refine w_iconst (n := (-1)) rfl rfl ?_
  refine w_iconst (n := 0) rfl rfl ?_
  obtain ⟨g4, H⟩ := H
  refine c_virt (p := a0) (as := [vr a1, vi (-1), vi 0]) (r := []) rfl rfl rfl rfl rfl rfl g4 (wc_mono H (Nat.le_refl _) ?_)
  rintro _ s5 ⟨r6, rfl, H⟩
  show wk iv L h0 (d + 1) 163 14 [lr a0, lr a1] [vi r6] s5 (qv F)
  refine w_pop rfl rfl ?_
  exact w_ret rfl rfl ⟨rfl, H⟩

/-- HoleDesk$Judge.wouldFit(LHoleDesk$Node;LHoleDesk$Node;)Z -/
theorem C164 {iv : List (Int × Int)} {L : Nat} {h0 : MH} {d : Nat} {s : SC} {a0 : Nat} {a1 : Nat} {a2 : Nat} {F : Int → SC → Prop} (H : (kl s a0 = 3) ∧ (kl s (fR s a0 0) = 4) ∧ (kl s a2 = 5) ∧ (kl s a1 = 5) ∧ ck iv L h0 d 165 [vr a0, vr a1, vi (fI s a2 8), vi 0] (uI (uR s a1 5 (fR s a2 5)) a1 6 (fI s a2 6)) (qi fun r6 s5 => (kl s5 a2 = 5) ∧ ((fR s5 a2 5 = 2 → (kl s5 a0 = 3) ∧ (kl s5 (fR s5 a0 0) = 4) ∧ (kl s5 a1 = 5) ∧ ((fI s5 a1 10 ≠ 0 → F 0 (uI s5 (fR s5 a0 0) 5 (fI s (fR s a0 0) 5))) ∧ (fI s5 a1 10 = 0 → F 1 (uI s5 (fR s5 a0 0) 5 (fI s (fR s a0 0) 5))))) ∧ (fR s5 a2 5 ≠ 2 → ((fI s5 a2 6 ≠ 0 → (kl s5 a0 = 3) ∧ (kl s5 (fR s5 a0 0) = 4) ∧ (kl s5 a1 = 5) ∧ ((fI s5 a1 10 ≠ 0 → F 0 (uI s5 (fR s5 a0 0) 5 (fI s (fR s a0 0) 5))) ∧ (fI s5 a1 10 = 0 → F 1 (uI s5 (fR s5 a0 0) 5 (fI s (fR s a0 0) 5))))) ∧ (fI s5 a2 6 = 0 → (kl s5 (fR s5 a2 5) = 5) ∧ (kl s5 a0 = 3) ∧ ck iv L h0 d 173 [vr a0, vi (fI s5 (fR s5 a2 5) 1), vi r6] s5 (qi fun r17 s16 => ((r17 = 0 → (kl s16 a0 = 3) ∧ (kl s16 (fR s16 a0 0) = 4) ∧ (kl s16 a1 = 5) ∧ ((fI s16 a1 10 ≠ 0 → F 0 (uI s16 (fR s16 a0 0) 5 (fI s (fR s a0 0) 5))) ∧ (fI s16 a1 10 = 0 → F 1 (uI s16 (fR s16 a0 0) 5 (fI s (fR s a0 0) 5))))) ∧ (r17 ≠ 0 → (kl s16 a0 = 3) ∧ (kl s16 (fR s16 a0 0) = 4) ∧ (kl s16 a1 = 5) ∧ ((fI s16 a1 10 ≠ 0 → F 0 (uI s16 (fR s16 a0 0) 5 (fI s (fR s a0 0) 5))) ∧ (fI s16 a1 10 = 0 → F 0 (uI s16 (fR s16 a0 0) 5 (fI s (fR s a0 0) 5))))))))))))) : ck iv L h0 (d + 1) 164 [vr a0, vr a1, vr a2] s (qi F) := by
  show wk iv L h0 (d + 1) 164 0 [lr a0, lr a1, lr a2] [] s (qi F)
  refine w_aload_n rfl rfl ?_
  obtain ⟨g1, H⟩ := H
  refine c_getr rfl rfl rfl g1 ?_
  obtain ⟨g2, H⟩ := H
  refine c_get rfl rfl rfl g2 ?_
  refine w_istore_n rfl rfl ?_
  refine w_aload_n rfl rfl ?_
  refine w_aload_n rfl rfl ?_
  obtain ⟨g3, H⟩ := H
  refine c_getr rfl rfl rfl g3 ?_
  obtain ⟨g4, H⟩ := H
  refine c_putr rfl rfl rfl rfl g4 ?_
  refine w_aload_n rfl rfl ?_
  refine w_aload_n rfl rfl ?_
  refine c_get rfl rfl rfl g3 ?_
  show wk iv L h0 (d + 1) 164 21 [lr a0, lr a1, lr a2, li (fI s (fR s a0 0) 5)] [vi (fI s a2 6), vr a1] (uR s a1 5 (fR s a2 5)) (qi F)
  refine c_put rfl rfl rfl rfl g4 ?_
  refine w_aload_n rfl rfl ?_
  refine w_aload_n rfl rfl ?_
  refine w_aload_n rfl rfl ?_
  refine c_get rfl rfl rfl g3 ?_
  show wk iv L h0 (d + 1) 164 30 [lr a0, lr a1, lr a2, li (fI s (fR s a0 0) 5)] [vi (fI s a2 8), vr a1, vr a0] (uI (uR s a1 5 (fR s a2 5)) a1 6 (fI s a2 6)) (qi F)
  refine w_iconst (n := 0) rfl rfl ?_
  refine c_virt (p := a0) (as := [vr a1, vi (fI s a2 8), vi 0]) (r := []) rfl rfl rfl rfl rfl rfl g1 (wc_mono H (Nat.le_refl _) ?_)
  rintro _ s5 ⟨r6, rfl, H⟩
  show wk iv L h0 (d + 1) 164 34 [lr a0, lr a1, lr a2, li (fI s (fR s a0 0) 5)] [vi r6] s5 (qi F)
  refine w_istore rfl rfl ?_
  refine w_aload_n rfl rfl ?_
  obtain ⟨g7, H⟩ := H
  refine c_getr rfl rfl rfl g7 ?_
  refine c_null rfl (fun h => ?_) (fun h => ?_)
  · replace H := H.1 h
    refine w_iconst (n := 0) rfl rfl ?_
    refine w_istore rfl rfl ?_
    refine w_aload_n rfl rfl ?_
    obtain ⟨g8, H⟩ := H
    refine c_getr rfl rfl rfl g8 ?_
    refine w_iload_n rfl rfl ?_
    obtain ⟨g9, H⟩ := H
    refine c_put rfl rfl rfl rfl g9 ?_
    refine w_aload_n rfl rfl ?_
    obtain ⟨g10, H⟩ := H
    refine c_get rfl rfl rfl g10 ?_
    show wk iv L h0 (d + 1) 164 85 [lr a0, lr a1, lr a2, li (fI s (fR s a0 0) 5), li r6, li 0] [vi (fI s5 a1 10)] (uI s5 (fR s5 a0 0) 5 (fI s (fR s a0 0) 5)) (qi F)
    refine w_if_ne rfl (fun h => ?_) (fun h => ?_)
    · replace H := H.1 h
      refine w_iconst (n := 0) rfl rfl ?_
      exact w_iretz rfl rfl (by decide) ⟨_, rfl, H⟩
    · replace H := H.2 h
      refine w_iload rfl rfl ?_
      refine w_if_ne rfl (fun h => absurd h (by decide)) (fun _ => ?_)
      refine w_iconst (n := 1) rfl rfl ?_
      refine w_goto rfl ?_
      exact w_iretz rfl rfl (by decide) ⟨_, rfl, H⟩
  · replace H := H.2 h
    refine w_aload_n rfl rfl ?_
    refine c_get rfl rfl rfl g7 ?_
    refine w_if_ne rfl (fun h => ?_) (fun h => ?_)
    · replace H := H.1 h
      refine w_iconst (n := 0) rfl rfl ?_
      refine w_istore rfl rfl ?_
      refine w_aload_n rfl rfl ?_
      obtain ⟨g11, H⟩ := H
      refine c_getr rfl rfl rfl g11 ?_
      refine w_iload_n rfl rfl ?_
      obtain ⟨g12, H⟩ := H
      refine c_put rfl rfl rfl rfl g12 ?_
      refine w_aload_n rfl rfl ?_
      obtain ⟨g13, H⟩ := H
      refine c_get rfl rfl rfl g13 ?_
      show wk iv L h0 (d + 1) 164 85 [lr a0, lr a1, lr a2, li (fI s (fR s a0 0) 5), li r6, li 0] [vi (fI s5 a1 10)] (uI s5 (fR s5 a0 0) 5 (fI s (fR s a0 0) 5)) (qi F)
      refine w_if_ne rfl (fun h => ?_) (fun h => ?_)
      · replace H := H.1 h
        refine w_iconst (n := 0) rfl rfl ?_
        exact w_iretz rfl rfl (by decide) ⟨_, rfl, H⟩
      · replace H := H.2 h
        refine w_iload rfl rfl ?_
        refine w_if_ne rfl (fun h => absurd h (by decide)) (fun _ => ?_)
        refine w_iconst (n := 1) rfl rfl ?_
        refine w_goto rfl ?_
        exact w_iretz rfl rfl (by decide) ⟨_, rfl, H⟩
    · replace H := H.2 h
      refine w_aload_n rfl rfl ?_
      refine w_aload_n rfl rfl ?_
      refine c_getr rfl rfl rfl g7 ?_
      obtain ⟨g14, H⟩ := H
      refine c_get rfl rfl rfl g14 ?_
      refine w_iload rfl rfl ?_
      obtain ⟨g15, H⟩ := H
      refine c_virt (p := a0) (as := [vi (fI s5 (fR s5 a2 5) 1), vi r6]) (r := []) rfl rfl rfl rfl rfl rfl g15 (wc_mono H (Nat.le_refl _) ?_)
      rintro _ s16 ⟨r17, rfl, H⟩
      show wk iv L h0 (d + 1) 164 63 [lr a0, lr a1, lr a2, li (fI s (fR s a0 0) 5), li r6] [vi r17] s16 (qi F)
      refine w_if_eq rfl (fun h => ?_) (fun h => ?_)
      · replace H := H.1 h
        refine w_iconst (n := 0) rfl rfl ?_
        refine w_istore rfl rfl ?_
        refine w_aload_n rfl rfl ?_
        obtain ⟨g18, H⟩ := H
        refine c_getr rfl rfl rfl g18 ?_
        refine w_iload_n rfl rfl ?_
        obtain ⟨g19, H⟩ := H
        refine c_put rfl rfl rfl rfl g19 ?_
        refine w_aload_n rfl rfl ?_
        obtain ⟨g20, H⟩ := H
        refine c_get rfl rfl rfl g20 ?_
        show wk iv L h0 (d + 1) 164 85 [lr a0, lr a1, lr a2, li (fI s (fR s a0 0) 5), li r6, li 0] [vi (fI s16 a1 10)] (uI s16 (fR s16 a0 0) 5 (fI s (fR s a0 0) 5)) (qi F)
        refine w_if_ne rfl (fun h => ?_) (fun h => ?_)
        · replace H := H.1 h
          refine w_iconst (n := 0) rfl rfl ?_
          exact w_iretz rfl rfl (by decide) ⟨_, rfl, H⟩
        · replace H := H.2 h
          refine w_iload rfl rfl ?_
          refine w_if_ne rfl (fun h => absurd h (by decide)) (fun _ => ?_)
          refine w_iconst (n := 1) rfl rfl ?_
          refine w_goto rfl ?_
          exact w_iretz rfl rfl (by decide) ⟨_, rfl, H⟩
      · replace H := H.2 h
        refine w_iconst (n := 1) rfl rfl ?_
        refine w_goto rfl ?_
        refine w_istore rfl rfl ?_
        refine w_aload_n rfl rfl ?_
        obtain ⟨g21, H⟩ := H
        refine c_getr rfl rfl rfl g21 ?_
        refine w_iload_n rfl rfl ?_
        obtain ⟨g22, H⟩ := H
        refine c_put rfl rfl rfl rfl g22 ?_
        refine w_aload_n rfl rfl ?_
        obtain ⟨g23, H⟩ := H
        refine c_get rfl rfl rfl g23 ?_
        show wk iv L h0 (d + 1) 164 85 [lr a0, lr a1, lr a2, li (fI s (fR s a0 0) 5), li r6, li 1] [vi (fI s16 a1 10)] (uI s16 (fR s16 a0 0) 5 (fI s (fR s a0 0) 5)) (qi F)
        refine w_if_ne rfl (fun h => ?_) (fun h => ?_)
        · replace H := H.1 h
          refine w_iconst (n := 0) rfl rfl ?_
          exact w_iretz rfl rfl (by decide) ⟨_, rfl, H⟩
        · replace H := H.2 h
          refine w_iload rfl rfl ?_
          refine w_if_ne rfl (fun _ => ?_) (fun h => absurd h (by decide))
          refine w_iconst (n := 0) rfl rfl ?_
          exact w_iretz rfl rfl (by decide) ⟨_, rfl, H⟩

/-- HoleDesk$Judge.ask(LHoleDesk$Node;II)I -/
theorem C165 {iv : List (Int × Int)} {L : Nat} {h0 : MH} {d : Nat} {s : SC} {a0 : Nat} {a1 : Nat} {a2 : Int} {a3 : Int} {F : Int → SC → Prop} (H : ((a3 ≤ 64 → (kl s a1 = 5) ∧ (-2147483648 ≤ a3 + 1 ∧ a3 + 1 ≤ 2147483647) ∧ (kl s a0 = 3) ∧ ck iv L h0 d 166 [vr a0, vr a1, vi a2, vi (a3 + 1)] (uI (uI s a1 8 a2) a1 10 0) (qi fun r5 s4 => (kl s4 a1 = 5) ∧ ((a2 = (-1) → ck iv L h0 d 189 [vr a1] (uI s4 a1 9 r5) (qi fun r8 s7 => F r8 s7)) ∧ (a2 ≠ (-1) → ((fI s4 a1 10 ≠ 0 → ck iv L h0 d 189 [vr a1] (uI s4 a1 9 r5) (qi fun r10 s9 => F r10 s9)) ∧ (fI s4 a1 10 = 0 → ((fI s4 a1 1 = 10 → ck iv L h0 d 189 [vr a1] (uI s4 a1 9 r5) (qi fun r12 s11 => F r12 s11)) ∧ (fI s4 a1 1 ≠ 10 → ((fI s4 a1 1 = 11 → ck iv L h0 d 189 [vr a1] (uI s4 a1 9 r5) (qi fun r14 s13 => F r14 s13)) ∧ (fI s4 a1 1 ≠ 11 → (kl s4 a0 = 3) ∧ (kl s4 (fR s4 a0 0) = 4) ∧ ck iv L h0 d 182 [vr (fR s4 a0 0), vi a2, vi (fI (uI s4 a1 9 r5) a1 9)] (uI s4 a1 9 r5) (qi fun r18 s17 => ((r18 ≠ 0 → (kl s17 a1 = 5) ∧ ck iv L h0 d 189 [vr a1] s17 (qi fun r21 s20 => F r21 s20)) ∧ (r18 = 0 → (kl s17 a1 = 5) ∧ ck iv L h0 d 189 [vr a1] (uI s17 a1 10 6) (qi fun r24 s23 => F r24 s23)))))))))))))) ∧ (64 < a3 → F 0 s))) : ck iv L h0 (d + 1) 165 [vr a0, vr a1, vi a2, vi a3] s (qi F) := by
  show wk iv L h0 (d + 1) 165 0 [lr a0, lr a1, li a2, li a3] [] s (qi F)
  refine w_iload_n rfl rfl ?_
  refine w_bipush (n := 64) rfl rfl rfl ?_
  refine w_icmp_le rfl (fun h => ?_) (fun h => ?_)
  · replace H := H.1 h
    refine w_aload_n rfl rfl ?_
    refine w_iload_n rfl rfl ?_
    obtain ⟨g1, H⟩ := H
    refine c_put rfl rfl rfl rfl g1 ?_
    refine w_aload_n rfl rfl ?_
    refine w_iconst (n := 0) rfl rfl ?_
    refine c_put rfl rfl rfl rfl g1 ?_
    refine w_aload_n rfl rfl ?_
    refine w_aload_n rfl rfl ?_
    refine w_aload_n rfl rfl ?_
    refine w_iload_n rfl rfl ?_
    refine w_iload_n rfl rfl ?_
    refine w_iconst (n := 1) rfl rfl ?_
    obtain ⟨g2, H⟩ := H
    refine w_iadd rfl g2 ?_
    obtain ⟨g3, H⟩ := H
    refine c_virt (p := a0) (as := [vr a1, vi a2, vi (a3 + 1)]) (r := [vr a1]) rfl rfl rfl rfl rfl rfl g3 (wc_mono H (Nat.le_refl _) ?_)
    rintro _ s4 ⟨r5, rfl, H⟩
    show wk iv L h0 (d + 1) 165 28 [lr a0, lr a1, li a2, li a3] [vi r5, vr a1] s4 (qi F)
    obtain ⟨g6, H⟩ := H
    refine c_put rfl rfl rfl rfl g6 ?_
    refine w_iload_n rfl rfl ?_
    refine w_iconst (n := (-1)) rfl rfl ?_
    refine w_icmp_eq rfl (fun h => ?_) (fun h => ?_)
    · replace H := H.1 h
      refine w_iconst (n := 0) rfl rfl ?_
      refine w_istore rfl rfl ?_
      refine w_iload rfl rfl ?_
      refine w_if_eq rfl (fun _ => ?_) (fun h => absurd h (by decide))
      refine w_aload_n rfl rfl ?_
      refine c_virt (p := a1) (as := []) (r := []) rfl rfl rfl rfl rfl rfl g6 (wc_mono H (Nat.le_refl _) ?_)
      rintro _ s7 ⟨r8, rfl, H⟩
      show wk iv L h0 (d + 1) 165 98 [lr a0, lr a1, li a2, li a3, li 0] [vi r8] s7 (qi F)
      exact w_iret rfl rfl ⟨_, rfl, H⟩
    · replace H := H.2 h
      refine w_aload_n rfl rfl ?_
      refine c_get rfl rfl rfl g6 ?_
      show wk iv L h0 (d + 1) 165 40 [lr a0, lr a1, li a2, li a3] [vi (fI s4 a1 10)] (uI s4 a1 9 r5) (qi F)
      refine w_if_ne rfl (fun h => ?_) (fun h => ?_)
      · replace H := H.1 h
        refine w_iconst (n := 0) rfl rfl ?_
        refine w_istore rfl rfl ?_
        refine w_iload rfl rfl ?_
        refine w_if_eq rfl (fun _ => ?_) (fun h => absurd h (by decide))
        refine w_aload_n rfl rfl ?_
        refine c_virt (p := a1) (as := []) (r := []) rfl rfl rfl rfl rfl rfl g6 (wc_mono H (Nat.le_refl _) ?_)
        rintro _ s9 ⟨r10, rfl, H⟩
        show wk iv L h0 (d + 1) 165 98 [lr a0, lr a1, li a2, li a3, li 0] [vi r10] s9 (qi F)
        exact w_iret rfl rfl ⟨_, rfl, H⟩
      · replace H := H.2 h
        refine w_aload_n rfl rfl ?_
        refine c_get rfl rfl rfl g6 ?_
        show wk iv L h0 (d + 1) 165 47 [lr a0, lr a1, li a2, li a3] [vi (fI s4 a1 1)] (uI s4 a1 9 r5) (qi F)
        refine w_bipush (n := 10) rfl rfl rfl ?_
        refine w_icmp_eq rfl (fun h => ?_) (fun h => ?_)
        · replace H := H.1 h
          refine w_iconst (n := 0) rfl rfl ?_
          refine w_istore rfl rfl ?_
          refine w_iload rfl rfl ?_
          refine w_if_eq rfl (fun _ => ?_) (fun h => absurd h (by decide))
          refine w_aload_n rfl rfl ?_
          refine c_virt (p := a1) (as := []) (r := []) rfl rfl rfl rfl rfl rfl g6 (wc_mono H (Nat.le_refl _) ?_)
          rintro _ s11 ⟨r12, rfl, H⟩
          show wk iv L h0 (d + 1) 165 98 [lr a0, lr a1, li a2, li a3, li 0] [vi r12] s11 (qi F)
          exact w_iret rfl rfl ⟨_, rfl, H⟩
        · replace H := H.2 h
          refine w_aload_n rfl rfl ?_
          refine c_get rfl rfl rfl g6 ?_
          show wk iv L h0 (d + 1) 165 56 [lr a0, lr a1, li a2, li a3] [vi (fI s4 a1 1)] (uI s4 a1 9 r5) (qi F)
          refine w_bipush (n := 11) rfl rfl rfl ?_
          refine w_icmp_eq rfl (fun h => ?_) (fun h => ?_)
          · replace H := H.1 h
            refine w_iconst (n := 0) rfl rfl ?_
            refine w_istore rfl rfl ?_
            refine w_iload rfl rfl ?_
            refine w_if_eq rfl (fun _ => ?_) (fun h => absurd h (by decide))
            refine w_aload_n rfl rfl ?_
            refine c_virt (p := a1) (as := []) (r := []) rfl rfl rfl rfl rfl rfl g6 (wc_mono H (Nat.le_refl _) ?_)
            rintro _ s13 ⟨r14, rfl, H⟩
            show wk iv L h0 (d + 1) 165 98 [lr a0, lr a1, li a2, li a3, li 0] [vi r14] s13 (qi F)
            exact w_iret rfl rfl ⟨_, rfl, H⟩
          · replace H := H.2 h
            refine w_iconst (n := 1) rfl rfl ?_
            refine w_goto rfl ?_
            refine w_istore rfl rfl ?_
            refine w_iload rfl rfl ?_
            refine w_if_eq rfl (fun h => absurd h (by decide)) (fun _ => ?_)
            refine w_aload_n rfl rfl ?_
            obtain ⟨g15, H⟩ := H
            refine c_getr rfl rfl rfl g15 ?_
            show wk iv L h0 (d + 1) 165 77 [lr a0, lr a1, li a2, li a3, li 1] [vr (fR s4 a0 0)] (uI s4 a1 9 r5) (qi F)
            refine w_iload_n rfl rfl ?_
            refine w_aload_n rfl rfl ?_
            refine c_get rfl rfl rfl g6 ?_
            show wk iv L h0 (d + 1) 165 82 [lr a0, lr a1, li a2, li a3, li 1] [vi (fI (uI s4 a1 9 r5) a1 9), vi a2, vr (fR s4 a0 0)] (uI s4 a1 9 r5) (qi F)
            obtain ⟨g16, H⟩ := H
            refine c_virt (p := (fR s4 a0 0)) (as := [vi a2, vi (fI (uI s4 a1 9 r5) a1 9)]) (r := []) rfl rfl rfl rfl rfl rfl g16 (wc_mono H (Nat.le_refl _) ?_)
            rintro _ s17 ⟨r18, rfl, H⟩
            show wk iv L h0 (d + 1) 165 85 [lr a0, lr a1, li a2, li a3, li 1] [vi r18] s17 (qi F)
            refine w_if_ne rfl (fun h => ?_) (fun h => ?_)
            · replace H := H.1 h
              refine w_aload_n rfl rfl ?_
              obtain ⟨g19, H⟩ := H
              refine c_virt (p := a1) (as := []) (r := []) rfl rfl rfl rfl rfl rfl g19 (wc_mono H (Nat.le_refl _) ?_)
              rintro _ s20 ⟨r21, rfl, H⟩
              show wk iv L h0 (d + 1) 165 98 [lr a0, lr a1, li a2, li a3, li 1] [vi r21] s20 (qi F)
              exact w_iret rfl rfl ⟨_, rfl, H⟩
            · replace H := H.2 h
              refine w_aload_n rfl rfl ?_
              refine w_bipush (n := 6) rfl rfl rfl ?_
              obtain ⟨g22, H⟩ := H
              refine c_put rfl rfl rfl rfl g22 ?_
              refine w_aload_n rfl rfl ?_
              refine c_virt (p := a1) (as := []) (r := []) rfl rfl rfl rfl rfl rfl g22 (wc_mono H (Nat.le_refl _) ?_)
              rintro _ s23 ⟨r24, rfl, H⟩
              show wk iv L h0 (d + 1) 165 98 [lr a0, lr a1, li a2, li a3, li 1] [vi r24] s23 (qi F)
              exact w_iret rfl rfl ⟨_, rfl, H⟩
  · replace H := H.2 h
    refine w_iconst (n := 0) rfl rfl ?_
    exact w_iret rfl rfl ⟨_, rfl, H⟩

/-- HoleDesk$Judge.makes(LHoleDesk$Node;II)I -/
theorem C166 {iv : List (Int × Int)} {L : Nat} {h0 : MH} {d : Nat} {s : SC} {a0 : Nat} {a1 : Nat} {a2 : Int} {a3 : Int} {F : Int → SC → Prop} (H : (kl s a1 = 5) ∧ ((fI s a1 1 = 1 → F 1 s) ∧ (fI s a1 1 = 2 → F 2 s) ∧ (fI s a1 1 = 3 → (kl s a0 = 3) ∧ ck iv L h0 d 167 [vr a0, vr a1] s (qi fun r4 s3 => F r4 s3)) ∧ (fI s a1 1 = 4 ∨ fI s a1 1 = 5 ∨ fI s a1 1 = 6 ∨ fI s a1 1 = 7 → (kl s (fR s a1 3) = 103) ∧ ((0 : Int) ≤ 0 ∧ 0 < le s (fR s a1 3)) ∧ (kl s a0 = 3) ∧ ck iv L h0 d 165 [vr a0, vr (aR s (fR s a1 3) 0), vi 1, vi a3] s (qi fun r9 s8 => (kl s8 a1 = 5) ∧ (kl s8 (fR s8 a1 3) = 103) ∧ ((0 : Int) ≤ 1 ∧ 1 < le s8 (fR s8 a1 3)) ∧ (kl s8 a0 = 3) ∧ ck iv L h0 d 165 [vr a0, vr (aR s8 (fR s8 a1 3) 1), vi 1, vi a3] s8 (qi fun r15 s14 => (kl s14 a1 = 5) ∧ ((fI s14 a1 1 ≠ 7 → F 1 s14) ∧ (fI s14 a1 1 = 7 → F 2 s14))))) ∧ (fI s a1 1 = 8 → (kl s a0 = 3) ∧ ck iv L h0 d 168 [vr a0, vr a1, vi a2, vi a3] s (qi fun r19 s18 => F r19 s18)) ∧ (fI s a1 1 = 9 → (kl s a0 = 3) ∧ ck iv L h0 d 169 [vr a0, vr a1, vi a3] s (qi fun r22 s21 => F r22 s21)) ∧ (fI s a1 1 = 10 → (kl s (fR s a1 3) = 103) ∧ ((0 : Int) ≤ 0 ∧ 0 < le s (fR s a1 3)) ∧ (kl s a0 = 3) ∧ ck iv L h0 d 165 [vr a0, vr (aR s (fR s a1 3) 0), vi (-1), vi a3] s (qi fun r27 s26 => (kl s26 a1 = 5) ∧ (kl s26 (fR s26 a1 3) = 103) ∧ ((0 : Int) ≤ 1 ∧ 1 < le s26 (fR s26 a1 3)) ∧ (kl s26 a0 = 3) ∧ ck iv L h0 d 165 [vr a0, vr (aR s26 (fR s26 a1 3) 1), vi a2, vi a3] s26 (qi fun r33 s32 => F r33 s32))) ∧ (fI s a1 1 = 11 → (kl s a0 = 3) ∧ ck iv L h0 d 170 [vr a0, vr a1, vi a2, vi a3] s (qi fun r36 s35 => F r36 s35)) ∧ (fI s a1 1 = 12 → (kl s a0 = 3) ∧ ck iv L h0 d 171 [vr a0, vr a1, vi a2, vi a3] s (qi fun r39 s38 => F r39 s38)) ∧ (fI s a1 1 = 13 ∨ fI s a1 1 = 14 → (kl s a0 = 3) ∧ ck iv L h0 d 172 [vr a0, vr a1, vi a3] s (qi fun r42 s41 => F r42 s41)) ∧ (fI s a1 1 = 15 → (kl s (fR s a1 3) = 103) ∧ ((0 : Int) ≤ 0 ∧ 0 < le s (fR s a1 3)) ∧ (kl s a0 = 3) ∧ ck iv L h0 d 165 [vr a0, vr (aR s (fR s a1 3) 0), vi (fI s a1 2), vi a3] s (qi fun r47 s46 => (kl s46 a1 = 5) ∧ F (fI s46 a1 2) s46)) ∧ (fI s a1 1 < 1 ∨ 15 < fI s a1 1 → F 0 s))) : ck iv L h0 (d + 1) 166 [vr a0, vr a1, vi a2, vi a3] s (qi F) := by
  show wk iv L h0 (d + 1) 166 0 [lr a0, lr a1, li a2, li a3] [] s (qi F)
  refine w_aload_n rfl rfl ?_
  obtain ⟨g1, H⟩ := H
  refine c_get rfl rfl rfl g1 ?_
  have J80 : (fI s a1 1 = 1) → wk iv L h0 (d + 1) 166 80 [lr a0, lr a1, li a2, li a3] [] s (qi F) := fun h => by
    replace H := H.1 h
    refine w_iconst (n := 1) rfl rfl ?_
    exact w_iret rfl rfl ⟨_, rfl, H⟩
  have J82 : (fI s a1 1 = 2) → wk iv L h0 (d + 1) 166 82 [lr a0, lr a1, li a2, li a3] [] s (qi F) := fun h => by
    replace H := H.2.1 h
    refine w_iconst (n := 2) rfl rfl ?_
    exact w_iret rfl rfl ⟨_, rfl, H⟩
  have J84 : (fI s a1 1 = 3) → wk iv L h0 (d + 1) 166 84 [lr a0, lr a1, li a2, li a3] [] s (qi F) := fun h => by
    replace H := H.2.2.1 h
    refine w_aload_n rfl rfl ?_
    refine w_aload_n rfl rfl ?_
    obtain ⟨g2, H⟩ := H
    refine c_virt (p := a0) (as := [vr a1]) (r := []) rfl rfl rfl rfl rfl rfl g2 (wc_mono H (Nat.le_refl _) ?_)
    rintro _ s3 ⟨r4, rfl, H⟩
    show wk iv L h0 (d + 1) 166 89 [lr a0, lr a1, li a2, li a3] [vi r4] s3 (qi F)
    exact w_iret rfl rfl ⟨_, rfl, H⟩
  have J90 : (fI s a1 1 = 4 ∨ fI s a1 1 = 5 ∨ fI s a1 1 = 6 ∨ fI s a1 1 = 7) → wk iv L h0 (d + 1) 166 90 [lr a0, lr a1, li a2, li a3] [] s (qi F) := fun h => by
    replace H := H.2.2.2.1 h
    refine w_aload_n rfl rfl ?_
    refine w_aload_n rfl rfl ?_
    refine c_getr rfl rfl rfl g1 ?_
    refine w_iconst (n := 0) rfl rfl ?_
    obtain ⟨g5, H⟩ := H
    obtain ⟨g6, H⟩ := H
    refine c_aald (t := 3) rfl ⟨g5, by decide, by decide⟩ g6 ?_
    refine w_iconst (n := 1) rfl rfl ?_
    refine w_iload_n rfl rfl ?_
    obtain ⟨g7, H⟩ := H
    refine c_virt (p := a0) (as := [vr (aR s (fR s a1 3) 0), vi 1, vi a3]) (r := []) rfl rfl rfl rfl rfl rfl g7 (wc_mono H (Nat.le_refl _) ?_)
    rintro _ s8 ⟨r9, rfl, H⟩
    show wk iv L h0 (d + 1) 166 102 [lr a0, lr a1, li a2, li a3] [vi r9] s8 (qi F)
    refine w_pop rfl rfl ?_
    refine w_aload_n rfl rfl ?_
    refine w_aload_n rfl rfl ?_
    obtain ⟨g10, H⟩ := H
    refine c_getr rfl rfl rfl g10 ?_
    refine w_iconst (n := 1) rfl rfl ?_
    obtain ⟨g11, H⟩ := H
    obtain ⟨g12, H⟩ := H
    refine c_aald (t := 3) rfl ⟨g11, by decide, by decide⟩ g12 ?_
    refine w_iconst (n := 1) rfl rfl ?_
    refine w_iload_n rfl rfl ?_
    obtain ⟨g13, H⟩ := H
    refine c_virt (p := a0) (as := [vr (aR s8 (fR s8 a1 3) 1), vi 1, vi a3]) (r := []) rfl rfl rfl rfl rfl rfl g13 (wc_mono H (Nat.le_refl _) ?_)
    rintro _ s14 ⟨r15, rfl, H⟩
    show wk iv L h0 (d + 1) 166 115 [lr a0, lr a1, li a2, li a3] [vi r15] s14 (qi F)
    refine w_pop rfl rfl ?_
    refine w_aload_n rfl rfl ?_
    obtain ⟨g16, H⟩ := H
    refine c_get rfl rfl rfl g16 ?_
    refine w_bipush (n := 7) rfl rfl rfl ?_
    refine w_icmp_ne rfl (fun h => ?_) (fun h => ?_)
    · replace H := H.1 h
      refine w_iconst (n := 1) rfl rfl ?_
      exact w_iret rfl rfl ⟨_, rfl, H⟩
    · replace H := H.2 h
      refine w_iconst (n := 2) rfl rfl ?_
      refine w_goto rfl ?_
      exact w_iret rfl rfl ⟨_, rfl, H⟩
  have J131 : (fI s a1 1 = 8) → wk iv L h0 (d + 1) 166 131 [lr a0, lr a1, li a2, li a3] [] s (qi F) := fun h => by
    replace H := H.2.2.2.2.1 h
    refine w_aload_n rfl rfl ?_
    refine w_aload_n rfl rfl ?_
    refine w_iload_n rfl rfl ?_
    refine w_iload_n rfl rfl ?_
    obtain ⟨g17, H⟩ := H
    refine c_virt (p := a0) (as := [vr a1, vi a2, vi a3]) (r := []) rfl rfl rfl rfl rfl rfl g17 (wc_mono H (Nat.le_refl _) ?_)
    rintro _ s18 ⟨r19, rfl, H⟩
    show wk iv L h0 (d + 1) 166 138 [lr a0, lr a1, li a2, li a3] [vi r19] s18 (qi F)
    exact w_iret rfl rfl ⟨_, rfl, H⟩
  have J139 : (fI s a1 1 = 9) → wk iv L h0 (d + 1) 166 139 [lr a0, lr a1, li a2, li a3] [] s (qi F) := fun h => by
    replace H := H.2.2.2.2.2.1 h
    refine w_aload_n rfl rfl ?_
    refine w_aload_n rfl rfl ?_
    refine w_iload_n rfl rfl ?_
    obtain ⟨g20, H⟩ := H
    refine c_virt (p := a0) (as := [vr a1, vi a3]) (r := []) rfl rfl rfl rfl rfl rfl g20 (wc_mono H (Nat.le_refl _) ?_)
    rintro _ s21 ⟨r22, rfl, H⟩
    show wk iv L h0 (d + 1) 166 145 [lr a0, lr a1, li a2, li a3] [vi r22] s21 (qi F)
    exact w_iret rfl rfl ⟨_, rfl, H⟩
  have J146 : (fI s a1 1 = 10) → wk iv L h0 (d + 1) 166 146 [lr a0, lr a1, li a2, li a3] [] s (qi F) := fun h => by
    replace H := H.2.2.2.2.2.2.1 h
    refine w_aload_n rfl rfl ?_
    refine w_aload_n rfl rfl ?_
    refine c_getr rfl rfl rfl g1 ?_
    refine w_iconst (n := 0) rfl rfl ?_
    obtain ⟨g23, H⟩ := H
    obtain ⟨g24, H⟩ := H
    refine c_aald (t := 3) rfl ⟨g23, by decide, by decide⟩ g24 ?_
    refine w_iconst (n := (-1)) rfl rfl ?_
    refine w_iload_n rfl rfl ?_
    obtain ⟨g25, H⟩ := H
    refine c_virt (p := a0) (as := [vr (aR s (fR s a1 3) 0), vi (-1), vi a3]) (r := []) rfl rfl rfl rfl rfl rfl g25 (wc_mono H (Nat.le_refl _) ?_)
    rintro _ s26 ⟨r27, rfl, H⟩
    show wk iv L h0 (d + 1) 166 158 [lr a0, lr a1, li a2, li a3] [vi r27] s26 (qi F)
    refine w_pop rfl rfl ?_
    refine w_aload_n rfl rfl ?_
    refine w_aload_n rfl rfl ?_
    obtain ⟨g28, H⟩ := H
    refine c_getr rfl rfl rfl g28 ?_
    refine w_iconst (n := 1) rfl rfl ?_
    obtain ⟨g29, H⟩ := H
    obtain ⟨g30, H⟩ := H
    refine c_aald (t := 3) rfl ⟨g29, by decide, by decide⟩ g30 ?_
    refine w_iload_n rfl rfl ?_
    refine w_iload_n rfl rfl ?_
    obtain ⟨g31, H⟩ := H
    refine c_virt (p := a0) (as := [vr (aR s26 (fR s26 a1 3) 1), vi a2, vi a3]) (r := []) rfl rfl rfl rfl rfl rfl g31 (wc_mono H (Nat.le_refl _) ?_)
    rintro _ s32 ⟨r33, rfl, H⟩
    show wk iv L h0 (d + 1) 166 171 [lr a0, lr a1, li a2, li a3] [vi r33] s32 (qi F)
    exact w_iret rfl rfl ⟨_, rfl, H⟩
  have J172 : (fI s a1 1 = 11) → wk iv L h0 (d + 1) 166 172 [lr a0, lr a1, li a2, li a3] [] s (qi F) := fun h => by
    replace H := H.2.2.2.2.2.2.2.1 h
    refine w_aload_n rfl rfl ?_
    refine w_aload_n rfl rfl ?_
    refine w_iload_n rfl rfl ?_
    refine w_iload_n rfl rfl ?_
    obtain ⟨g34, H⟩ := H
    refine c_virt (p := a0) (as := [vr a1, vi a2, vi a3]) (r := []) rfl rfl rfl rfl rfl rfl g34 (wc_mono H (Nat.le_refl _) ?_)
    rintro _ s35 ⟨r36, rfl, H⟩
    show wk iv L h0 (d + 1) 166 179 [lr a0, lr a1, li a2, li a3] [vi r36] s35 (qi F)
    exact w_iret rfl rfl ⟨_, rfl, H⟩
  have J180 : (fI s a1 1 = 12) → wk iv L h0 (d + 1) 166 180 [lr a0, lr a1, li a2, li a3] [] s (qi F) := fun h => by
    replace H := H.2.2.2.2.2.2.2.2.1 h
    refine w_aload_n rfl rfl ?_
    refine w_aload_n rfl rfl ?_
    refine w_iload_n rfl rfl ?_
    refine w_iload_n rfl rfl ?_
    obtain ⟨g37, H⟩ := H
    refine c_virt (p := a0) (as := [vr a1, vi a2, vi a3]) (r := []) rfl rfl rfl rfl rfl rfl g37 (wc_mono H (Nat.le_refl _) ?_)
    rintro _ s38 ⟨r39, rfl, H⟩
    show wk iv L h0 (d + 1) 166 187 [lr a0, lr a1, li a2, li a3] [vi r39] s38 (qi F)
    exact w_iret rfl rfl ⟨_, rfl, H⟩
  have J188 : (fI s a1 1 = 13 ∨ fI s a1 1 = 14) → wk iv L h0 (d + 1) 166 188 [lr a0, lr a1, li a2, li a3] [] s (qi F) := fun h => by
    replace H := H.2.2.2.2.2.2.2.2.2.1 h
    refine w_aload_n rfl rfl ?_
    refine w_aload_n rfl rfl ?_
    refine w_iload_n rfl rfl ?_
    obtain ⟨g40, H⟩ := H
    refine c_virt (p := a0) (as := [vr a1, vi a3]) (r := []) rfl rfl rfl rfl rfl rfl g40 (wc_mono H (Nat.le_refl _) ?_)
    rintro _ s41 ⟨r42, rfl, H⟩
    show wk iv L h0 (d + 1) 166 194 [lr a0, lr a1, li a2, li a3] [vi r42] s41 (qi F)
    exact w_iret rfl rfl ⟨_, rfl, H⟩
  have J195 : (fI s a1 1 = 15) → wk iv L h0 (d + 1) 166 195 [lr a0, lr a1, li a2, li a3] [] s (qi F) := fun h => by
    replace H := H.2.2.2.2.2.2.2.2.2.2.1 h
    refine w_aload_n rfl rfl ?_
    refine w_aload_n rfl rfl ?_
    refine c_getr rfl rfl rfl g1 ?_
    refine w_iconst (n := 0) rfl rfl ?_
    obtain ⟨g43, H⟩ := H
    obtain ⟨g44, H⟩ := H
    refine c_aald (t := 3) rfl ⟨g43, by decide, by decide⟩ g44 ?_
    refine w_aload_n rfl rfl ?_
    refine c_get rfl rfl rfl g1 ?_
    refine w_iload_n rfl rfl ?_
    obtain ⟨g45, H⟩ := H
    refine c_virt (p := a0) (as := [vr (aR s (fR s a1 3) 0), vi (fI s a1 2), vi a3]) (r := []) rfl rfl rfl rfl rfl rfl g45 (wc_mono H (Nat.le_refl _) ?_)
    rintro _ s46 ⟨r47, rfl, H⟩
    show wk iv L h0 (d + 1) 166 210 [lr a0, lr a1, li a2, li a3] [vi r47] s46 (qi F)
    refine w_pop rfl rfl ?_
    refine w_aload_n rfl rfl ?_
    obtain ⟨g48, H⟩ := H
    refine c_get rfl rfl rfl g48 ?_
    exact w_iret rfl rfl ⟨_, rfl, H⟩
  have J216 : (fI s a1 1 < 1 ∨ 15 < fI s a1 1) → wk iv L h0 (d + 1) 166 216 [lr a0, lr a1, li a2, li a3] [] s (qi F) := fun h => by
    replace H := H.2.2.2.2.2.2.2.2.2.2.2 h
    refine w_iconst (n := 0) rfl rfl ?_
    exact w_iret rfl rfl ⟨_, rfl, H⟩
  refine w_tsw (td := 216) (ts := [80, 82, 84, 90, 90, 90, 90, 131, 139, 146, 172, 180, 188, 188, 195]) rfl rfl rfl rfl rfl rfl (fun h => J216 (by omega)) ?_
  exact swA_c (fun h => J80 (by omega)) (swA_c (fun h => J82 (by omega)) (swA_c (fun h => J84 (by omega)) (swA_c (fun h => J90 (by omega)) (swA_c (fun h => J90 (by omega)) (swA_c (fun h => J90 (by omega)) (swA_c (fun h => J90 (by omega)) (swA_c (fun h => J131 (by omega)) (swA_c (fun h => J139 (by omega)) (swA_c (fun h => J146 (by omega)) (swA_c (fun h => J172 (by omega)) (swA_c (fun h => J180 (by omega)) (swA_c (fun h => J188 (by omega)) (swA_c (fun h => J188 (by omega)) (swA_c (fun h => J195 (by omega)) (swA_n)))))))))))))))

/-- HoleDesk$Judge.nameMakes(LHoleDesk$Node;)I -/
theorem C167 {iv : List (Int × Int)} {L : Nat} {h0 : MH} {d : Nat} {s : SC} {a0 : Nat} {a1 : Nat} {F : Int → SC → Prop} (H : (kl s a1 = 5) ∧ ck iv L h0 d 56 [vr a1, vi (fI s a1 4), vr 2, vi (-9)] s (qa fun r3 s2 => ((r3 ≠ 2 → (kl s2 r3 = 5) ∧ ((fI s2 r3 1 ≠ 8 → (kl s2 (fR s2 r3 3) = 103) ∧ ((0 : Int) ≤ 0 ∧ 0 < le s2 (fR s2 r3 3)) ∧ (kl s2 (aR s2 (fR s2 r3 3) 0) = 5) ∧ ck iv L h0 d 189 [vr (aR s2 (fR s2 r3 3) 0)] s2 (qi fun r9 s8 => F r9 s8)) ∧ (fI s2 r3 1 = 8 → F (fI s2 r3 2) s2))) ∧ (r3 = 2 → (kl s2 a1 = 5) ∧ F 0 (uI s2 a1 10 1))))) : ck iv L h0 (d + 1) 167 [vr a0, vr a1] s (qi F) := by
  show wk iv L h0 (d + 1) 167 0 [lr a0, lr a1] [] s (qi F)
  refine w_aload_n rfl rfl ?_
  refine w_aload_n rfl rfl ?_
  obtain ⟨g1, H⟩ := H
  refine c_get rfl rfl rfl g1 ?_
  refine w_null rfl ?_
  refine w_bipush (n := (-9)) rfl rfl rfl ?_
  refine w_static (as := [vr a1, vi (fI s a1 4), vr 2, vi (-9)]) (r := []) rfl rfl rfl rfl rfl (wc_mono H (Nat.le_refl _) ?_)
  rintro _ s2 ⟨r3, rfl, H⟩
  show wk iv L h0 (d + 1) 167 11 [lr a0, lr a1] [vr r3] s2 (qi F)
  refine w_astore_n rfl rfl ?_
  refine w_aload_n rfl rfl ?_
  refine c_nonnull rfl (fun h => ?_) (fun h => ?_)
  · replace H := H.1 h
    refine w_aload_n rfl rfl ?_
    obtain ⟨g4, H⟩ := H
    refine c_get rfl rfl rfl g4 ?_
    refine w_bipush (n := 8) rfl rfl rfl ?_
    refine w_icmp_ne rfl (fun h => ?_) (fun h => ?_)
    · replace H := H.1 h
      refine w_aload_n rfl rfl ?_
      refine c_getr rfl rfl rfl g4 ?_
      refine w_iconst (n := 0) rfl rfl ?_
      obtain ⟨g5, H⟩ := H
      obtain ⟨g6, H⟩ := H
      refine c_aald (t := 3) rfl ⟨g5, by decide, by decide⟩ g6 ?_
      obtain ⟨g7, H⟩ := H
      refine c_virt (p := (aR s2 (fR s2 r3 3) 0)) (as := []) (r := []) rfl rfl rfl rfl rfl rfl g7 (wc_mono H (Nat.le_refl _) ?_)
      rintro _ s8 ⟨r9, rfl, H⟩
      show wk iv L h0 (d + 1) 167 48 [lr a0, lr a1, lr r3] [vi r9] s8 (qi F)
      exact w_iret rfl rfl ⟨_, rfl, H⟩
    · replace H := H.2 h
      refine w_aload_n rfl rfl ?_
      refine c_get rfl rfl rfl g4 ?_
      refine w_goto rfl ?_
      exact w_iret rfl rfl ⟨_, rfl, H⟩
  · replace H := H.2 h
    refine w_aload_n rfl rfl ?_
    refine w_iconst (n := 1) rfl rfl ?_
    obtain ⟨g10, H⟩ := H
    refine c_put rfl rfl rfl rfl g10 ?_
    refine w_iconst (n := 0) rfl rfl ?_
    exact w_iret rfl rfl ⟨_, rfl, H⟩

/-- HoleDesk$Judge.defMakes(LHoleDesk$Node;II)I -/
theorem C168 {iv : List (Int × Int)} {L : Nat} {h0 : MH} {d : Nat} {s : SC} {a0 : Nat} {a1 : Nat} {a2 : Int} {a3 : Int} {F : Int → SC → Prop} (H : ((a2 ≠ 0 → ((a2 = (-1) → (kl s a0 = 3) ∧ (kl s a1 = 5) ∧ (kl s (fR s a1 3) = 103) ∧ ((0 : Int) ≤ 0 ∧ 0 < le s (fR s a1 3)) ∧ ck iv L h0 d 165 [vr a0, vr (aR s (fR s a1 3) 0), vi (-1), vi a3] s (qi fun r6 s5 => (kl s5 (fR s a0 0) = 4) ∧ ck iv L h0 d 181 [vr (fR s a0 0), vi 3, vi (fI s a1 2), vi r6] s5 (qi fun r9 s8 => F r9 s8))) ∧ (a2 ≠ (-1) → (kl s a0 = 3) ∧ (kl s (fR s a0 0) = 4) ∧ (kl s (fR s (fR s a0 0) 0) = 100) ∧ (0 ≤ a2 ∧ a2 < le s (fR s (fR s a0 0) 0)) ∧ ((aI s (fR s (fR s a0 0) 0) a2 ≠ 3 → (kl s a1 = 5) ∧ (kl s (fR s a1 3) = 103) ∧ ((0 : Int) ≤ 0 ∧ 0 < le s (fR s a1 3)) ∧ ck iv L h0 d 165 [vr a0, vr (aR s (fR s a1 3) 0), vi (-1), vi a3] s (qi fun r18 s17 => (kl s17 (fR s a0 0) = 4) ∧ ck iv L h0 d 181 [vr (fR s a0 0), vi 3, vi (fI s a1 2), vi r18] s17 (qi fun r21 s20 => F r21 s20))) ∧ (aI s (fR s (fR s a0 0) 0) a2 = 3 → (kl s (fR s (fR s a0 0) 2) = 100) ∧ (0 ≤ a2 ∧ a2 < le s (fR s (fR s a0 0) 2)) ∧ (kl s a1 = 5) ∧ (kl s (fR s (fR s a0 0) 1) = 100) ∧ (0 ≤ a2 ∧ a2 < le s (fR s (fR s a0 0) 1)) ∧ ck iv L h0 d 182 [vr (fR s a0 0), vi (fI s a1 2), vi (aI s (fR s (fR s a0 0) 1) a2)] s (qi fun r28 s27 => ((r28 ≠ 0 → (kl s27 a0 = 3) ∧ (kl s27 a1 = 5) ∧ (kl s27 (fR s27 a1 3) = 103) ∧ ((0 : Int) ≤ 0 ∧ 0 < le s27 (fR s27 a1 3)) ∧ ck iv L h0 d 165 [vr a0, vr (aR s27 (fR s27 a1 3) 0), vi (aI s (fR s (fR s a0 0) 2) a2), vi a3] s27 (qi fun r34 s33 => (kl s33 (fR s27 a0 0) = 4) ∧ ck iv L h0 d 181 [vr (fR s27 a0 0), vi 3, vi (fI s27 a1 2), vi r34] s33 (qi fun r37 s36 => F r37 s36))) ∧ (r28 = 0 → (kl s27 a1 = 5) ∧ (kl s27 a0 = 3) ∧ (kl s27 (fR s27 a1 3) = 103) ∧ ((0 : Int) ≤ 0 ∧ 0 < le s27 (fR s27 a1 3)) ∧ ck iv L h0 d 165 [vr a0, vr (aR s27 (fR s27 a1 3) 0), vi (aI s (fR s (fR s a0 0) 2) a2), vi a3] (uI s27 a1 10 4) (qi fun r43 s42 => (kl s42 (fR s27 a0 0) = 4) ∧ ck iv L h0 d 181 [vr (fR s27 a0 0), vi 3, vi (fI s27 a1 2), vi r43] s42 (qi fun r46 s45 => F r46 s45)))))))))) ∧ (a2 = 0 → (kl s a0 = 3) ∧ (kl s a1 = 5) ∧ (kl s (fR s a1 3) = 103) ∧ ((0 : Int) ≤ 0 ∧ 0 < le s (fR s a1 3)) ∧ ck iv L h0 d 165 [vr a0, vr (aR s (fR s a1 3) 0), vi 0, vi a3] s (qi fun r52 s51 => (kl s51 (fR s a0 0) = 4) ∧ ck iv L h0 d 181 [vr (fR s a0 0), vi 3, vi (fI s a1 2), vi r52] s51 (qi fun r55 s54 => F r55 s54))))) : ck iv L h0 (d + 1) 168 [vr a0, vr a1, vi a2, vi a3] s (qi F) := by
  show wk iv L h0 (d + 1) 168 0 [lr a0, lr a1, li a2, li a3] [] s (qi F)
  refine w_iconst (n := (-1)) rfl rfl ?_
  refine w_istore rfl rfl ?_
  refine w_iload_n rfl rfl ?_
  refine w_if_ne rfl (fun h => ?_) (fun h => ?_)
  · replace H := H.1 h
    refine w_iload_n rfl rfl ?_
    refine w_iconst (n := (-1)) rfl rfl ?_
    refine w_icmp_eq rfl (fun h => ?_) (fun h => ?_)
    · replace H := H.1 h
      refine w_aload_n rfl rfl ?_
      obtain ⟨g1, H⟩ := H
      refine c_getr rfl rfl rfl g1 ?_
      refine w_iconst (n := 3) rfl rfl ?_
      refine w_aload_n rfl rfl ?_
      obtain ⟨g2, H⟩ := H
      refine c_get rfl rfl rfl g2 ?_
      refine w_aload_n rfl rfl ?_
      refine w_aload_n rfl rfl ?_
      refine c_getr rfl rfl rfl g2 ?_
      refine w_iconst (n := 0) rfl rfl ?_
      obtain ⟨g3, H⟩ := H
      obtain ⟨g4, H⟩ := H
      refine c_aald (t := 3) rfl ⟨g3, by decide, by decide⟩ g4 ?_
      refine w_iload rfl rfl ?_
      refine w_iload_n rfl rfl ?_
      refine c_virt (p := a0) (as := [vr (aR s (fR s a1 3) 0), vi (-1), vi a3]) (r := [vi (fI s a1 2), vi 3, vr (fR s a0 0)]) rfl rfl rfl rfl rfl rfl g1 (wc_mono H (Nat.le_refl _) ?_)
      rintro _ s5 ⟨r6, rfl, H⟩
      show wk iv L h0 (d + 1) 168 92 [lr a0, lr a1, li a2, li a3, li (-1)] [vi r6, vi (fI s a1 2), vi 3, vr (fR s a0 0)] s5 (qi F)
      obtain ⟨g7, H⟩ := H
      refine c_virt (p := (fR s a0 0)) (as := [vi 3, vi (fI s a1 2), vi r6]) (r := []) rfl rfl rfl rfl rfl rfl g7 (wc_mono H (Nat.le_refl _) ?_)
      rintro _ s8 ⟨r9, rfl, H⟩
      show wk iv L h0 (d + 1) 168 95 [lr a0, lr a1, li a2, li a3, li (-1)] [vi r9] s8 (qi F)
      exact w_iret rfl rfl ⟨_, rfl, H⟩
    · replace H := H.2 h
      refine w_aload_n rfl rfl ?_
      obtain ⟨g10, H⟩ := H
      refine c_getr rfl rfl rfl g10 ?_
      obtain ⟨g11, H⟩ := H
      refine c_getr rfl rfl rfl g11 ?_
      refine w_iload_n rfl rfl ?_
      obtain ⟨g12, H⟩ := H
      obtain ⟨g13, H⟩ := H
      refine c_ald rfl g12 g13 ?_
      refine w_iconst (n := 3) rfl rfl ?_
      refine w_icmp_ne rfl (fun h => ?_) (fun h => ?_)
      · replace H := H.1 h
        refine w_aload_n rfl rfl ?_
        refine c_getr rfl rfl rfl g10 ?_
        refine w_iconst (n := 3) rfl rfl ?_
        refine w_aload_n rfl rfl ?_
        obtain ⟨g14, H⟩ := H
        refine c_get rfl rfl rfl g14 ?_
        refine w_aload_n rfl rfl ?_
        refine w_aload_n rfl rfl ?_
        refine c_getr rfl rfl rfl g14 ?_
        refine w_iconst (n := 0) rfl rfl ?_
        obtain ⟨g15, H⟩ := H
        obtain ⟨g16, H⟩ := H
        refine c_aald (t := 3) rfl ⟨g15, by decide, by decide⟩ g16 ?_
        refine w_iload rfl rfl ?_
        refine w_iload_n rfl rfl ?_
        refine c_virt (p := a0) (as := [vr (aR s (fR s a1 3) 0), vi (-1), vi a3]) (r := [vi (fI s a1 2), vi 3, vr (fR s a0 0)]) rfl rfl rfl rfl rfl rfl g10 (wc_mono H (Nat.le_refl _) ?_)
        rintro _ s17 ⟨r18, rfl, H⟩
        show wk iv L h0 (d + 1) 168 92 [lr a0, lr a1, li a2, li a3, li (-1)] [vi r18, vi (fI s a1 2), vi 3, vr (fR s a0 0)] s17 (qi F)
        obtain ⟨g19, H⟩ := H
        refine c_virt (p := (fR s a0 0)) (as := [vi 3, vi (fI s a1 2), vi r18]) (r := []) rfl rfl rfl rfl rfl rfl g19 (wc_mono H (Nat.le_refl _) ?_)
        rintro _ s20 ⟨r21, rfl, H⟩
        show wk iv L h0 (d + 1) 168 95 [lr a0, lr a1, li a2, li a3, li (-1)] [vi r21] s20 (qi F)
        exact w_iret rfl rfl ⟨_, rfl, H⟩
      · replace H := H.2 h
        refine w_aload_n rfl rfl ?_
        refine c_getr rfl rfl rfl g10 ?_
        refine c_getr rfl rfl rfl g11 ?_
        refine w_iload_n rfl rfl ?_
        obtain ⟨g22, H⟩ := H
        obtain ⟨g23, H⟩ := H
        refine c_ald rfl g22 g23 ?_
        refine w_istore rfl rfl ?_
        refine w_aload_n rfl rfl ?_
        refine c_getr rfl rfl rfl g10 ?_
        refine w_aload_n rfl rfl ?_
        obtain ⟨g24, H⟩ := H
        refine c_get rfl rfl rfl g24 ?_
        refine w_aload_n rfl rfl ?_
        refine c_getr rfl rfl rfl g10 ?_
        refine c_getr rfl rfl rfl g11 ?_
        refine w_iload_n rfl rfl ?_
        obtain ⟨g25, H⟩ := H
        obtain ⟨g26, H⟩ := H
        refine c_ald rfl g25 g26 ?_
        refine c_virt (p := (fR s a0 0)) (as := [vi (fI s a1 2), vi (aI s (fR s (fR s a0 0) 1) a2)]) (r := []) rfl rfl rfl rfl rfl rfl g11 (wc_mono H (Nat.le_refl _) ?_)
        rintro _ s27 ⟨r28, rfl, H⟩
        show wk iv L h0 (d + 1) 168 62 [lr a0, lr a1, li a2, li a3, li (aI s (fR s (fR s a0 0) 2) a2)] [vi r28] s27 (qi F)
        refine w_if_ne rfl (fun h => ?_) (fun h => ?_)
        · replace H := H.1 h
          refine w_aload_n rfl rfl ?_
          obtain ⟨g29, H⟩ := H
          refine c_getr rfl rfl rfl g29 ?_
          refine w_iconst (n := 3) rfl rfl ?_
          refine w_aload_n rfl rfl ?_
          obtain ⟨g30, H⟩ := H
          refine c_get rfl rfl rfl g30 ?_
          refine w_aload_n rfl rfl ?_
          refine w_aload_n rfl rfl ?_
          refine c_getr rfl rfl rfl g30 ?_
          refine w_iconst (n := 0) rfl rfl ?_
          obtain ⟨g31, H⟩ := H
          obtain ⟨g32, H⟩ := H
          refine c_aald (t := 3) rfl ⟨g31, by decide, by decide⟩ g32 ?_
          refine w_iload rfl rfl ?_
          refine w_iload_n rfl rfl ?_
          refine c_virt (p := a0) (as := [vr (aR s27 (fR s27 a1 3) 0), vi (aI s (fR s (fR s a0 0) 2) a2), vi a3]) (r := [vi (fI s27 a1 2), vi 3, vr (fR s27 a0 0)]) rfl rfl rfl rfl rfl rfl g29 (wc_mono H (Nat.le_refl _) ?_)
          rintro _ s33 ⟨r34, rfl, H⟩
          show wk iv L h0 (d + 1) 168 92 [lr a0, lr a1, li a2, li a3, li (aI s (fR s (fR s a0 0) 2) a2)] [vi r34, vi (fI s27 a1 2), vi 3, vr (fR s27 a0 0)] s33 (qi F)
          obtain ⟨g35, H⟩ := H
          refine c_virt (p := (fR s27 a0 0)) (as := [vi 3, vi (fI s27 a1 2), vi r34]) (r := []) rfl rfl rfl rfl rfl rfl g35 (wc_mono H (Nat.le_refl _) ?_)
          rintro _ s36 ⟨r37, rfl, H⟩
          show wk iv L h0 (d + 1) 168 95 [lr a0, lr a1, li a2, li a3, li (aI s (fR s (fR s a0 0) 2) a2)] [vi r37] s36 (qi F)
          exact w_iret rfl rfl ⟨_, rfl, H⟩
        · replace H := H.2 h
          refine w_aload_n rfl rfl ?_
          refine w_iconst (n := 4) rfl rfl ?_
          obtain ⟨g38, H⟩ := H
          refine c_put rfl rfl rfl rfl g38 ?_
          refine w_aload_n rfl rfl ?_
          obtain ⟨g39, H⟩ := H
          refine c_getr rfl rfl rfl g39 ?_
          show wk iv L h0 (d + 1) 168 74 [lr a0, lr a1, li a2, li a3, li (aI s (fR s (fR s a0 0) 2) a2)] [vr (fR s27 a0 0)] (uI s27 a1 10 4) (qi F)
          refine w_iconst (n := 3) rfl rfl ?_
          refine w_aload_n rfl rfl ?_
          refine c_get rfl rfl rfl g38 ?_
          show wk iv L h0 (d + 1) 168 79 [lr a0, lr a1, li a2, li a3, li (aI s (fR s (fR s a0 0) 2) a2)] [vi (fI s27 a1 2), vi 3, vr (fR s27 a0 0)] (uI s27 a1 10 4) (qi F)
          refine w_aload_n rfl rfl ?_
          refine w_aload_n rfl rfl ?_
          refine c_getr rfl rfl rfl g38 ?_
          show wk iv L h0 (d + 1) 168 84 [lr a0, lr a1, li a2, li a3, li (aI s (fR s (fR s a0 0) 2) a2)] [vr (fR s27 a1 3), vr a0, vi (fI s27 a1 2), vi 3, vr (fR s27 a0 0)] (uI s27 a1 10 4) (qi F)
          refine w_iconst (n := 0) rfl rfl ?_
          obtain ⟨g40, H⟩ := H
          obtain ⟨g41, H⟩ := H
          refine c_aald (t := 3) rfl ⟨g40, by decide, by decide⟩ g41 ?_
          show wk iv L h0 (d + 1) 168 86 [lr a0, lr a1, li a2, li a3, li (aI s (fR s (fR s a0 0) 2) a2)] [vr (aR s27 (fR s27 a1 3) 0), vr a0, vi (fI s27 a1 2), vi 3, vr (fR s27 a0 0)] (uI s27 a1 10 4) (qi F)
          refine w_iload rfl rfl ?_
          refine w_iload_n rfl rfl ?_
          refine c_virt (p := a0) (as := [vr (aR s27 (fR s27 a1 3) 0), vi (aI s (fR s (fR s a0 0) 2) a2), vi a3]) (r := [vi (fI s27 a1 2), vi 3, vr (fR s27 a0 0)]) rfl rfl rfl rfl rfl rfl g39 (wc_mono H (Nat.le_refl _) ?_)
          rintro _ s42 ⟨r43, rfl, H⟩
          show wk iv L h0 (d + 1) 168 92 [lr a0, lr a1, li a2, li a3, li (aI s (fR s (fR s a0 0) 2) a2)] [vi r43, vi (fI s27 a1 2), vi 3, vr (fR s27 a0 0)] s42 (qi F)
          obtain ⟨g44, H⟩ := H
          refine c_virt (p := (fR s27 a0 0)) (as := [vi 3, vi (fI s27 a1 2), vi r43]) (r := []) rfl rfl rfl rfl rfl rfl g44 (wc_mono H (Nat.le_refl _) ?_)
          rintro _ s45 ⟨r46, rfl, H⟩
          show wk iv L h0 (d + 1) 168 95 [lr a0, lr a1, li a2, li a3, li (aI s (fR s (fR s a0 0) 2) a2)] [vi r46] s45 (qi F)
          exact w_iret rfl rfl ⟨_, rfl, H⟩
  · replace H := H.2 h
    refine w_iconst (n := 0) rfl rfl ?_
    refine w_istore rfl rfl ?_
    refine w_goto rfl ?_
    refine w_aload_n rfl rfl ?_
    obtain ⟨g47, H⟩ := H
    refine c_getr rfl rfl rfl g47 ?_
    refine w_iconst (n := 3) rfl rfl ?_
    refine w_aload_n rfl rfl ?_
    obtain ⟨g48, H⟩ := H
    refine c_get rfl rfl rfl g48 ?_
    refine w_aload_n rfl rfl ?_
    refine w_aload_n rfl rfl ?_
    refine c_getr rfl rfl rfl g48 ?_
    refine w_iconst (n := 0) rfl rfl ?_
    obtain ⟨g49, H⟩ := H
    obtain ⟨g50, H⟩ := H
    refine c_aald (t := 3) rfl ⟨g49, by decide, by decide⟩ g50 ?_
    refine w_iload rfl rfl ?_
    refine w_iload_n rfl rfl ?_
    refine c_virt (p := a0) (as := [vr (aR s (fR s a1 3) 0), vi 0, vi a3]) (r := [vi (fI s a1 2), vi 3, vr (fR s a0 0)]) rfl rfl rfl rfl rfl rfl g47 (wc_mono H (Nat.le_refl _) ?_)
    rintro _ s51 ⟨r52, rfl, H⟩
    show wk iv L h0 (d + 1) 168 92 [lr a0, lr a1, li a2, li a3, li 0] [vi r52, vi (fI s a1 2), vi 3, vr (fR s a0 0)] s51 (qi F)
    obtain ⟨g53, H⟩ := H
    refine c_virt (p := (fR s a0 0)) (as := [vi 3, vi (fI s a1 2), vi r52]) (r := []) rfl rfl rfl rfl rfl rfl g53 (wc_mono H (Nat.le_refl _) ?_)
    rintro _ s54 ⟨r55, rfl, H⟩
    show wk iv L h0 (d + 1) 168 95 [lr a0, lr a1, li a2, li a3, li 0] [vi r55] s54 (qi F)
    exact w_iret rfl rfl ⟨_, rfl, H⟩

/-- HoleDesk$Judge.useMakes(LHoleDesk$Node;I)I -/
theorem C169 {iv : List (Int × Int)} {L : Nat} {h0 : MH} {d : Nat} {s : SC} {a0 : Nat} {a1 : Nat} {a2 : Int} {F : Int → SC → Prop} (H : (kl s a1 = 5) ∧ (kl s (fR s a1 3) = 103) ∧ ((0 : Int) ≤ 0 ∧ 0 < le s (fR s a1 3)) ∧ (kl s a0 = 3) ∧ ck iv L h0 d 165 [vr a0, vr (aR s (fR s a1 3) 0), vi (-1), vi a2] s (qi fun r6 s5 => (kl s5 a0 = 3) ∧ (kl s5 (fR s5 a0 0) = 4) ∧ (kl s5 (fR s5 (fR s5 a0 0) 0) = 100) ∧ (0 ≤ r6 ∧ r6 < le s5 (fR s5 (fR s5 a0 0) 0)) ∧ ((aI s5 (fR s5 (fR s5 a0 0) 0) r6 ≠ 3 → (kl s5 a1 = 5) ∧ (kl s5 (fR s5 a1 3) = 103) ∧ ((0 : Int) ≤ 0 ∧ 0 < le s5 (fR s5 a1 3)) ∧ (kl s5 (aR s5 (fR s5 a1 3) 0) = 5) ∧ ((fI s5 (aR s5 (fR s5 a1 3) 0) 10 ≠ 0 → ((0 : Int) ≤ 1 ∧ 1 < le s5 (fR s5 a1 3)) ∧ ck iv L h0 d 165 [vr a0, vr (aR s5 (fR s5 a1 3) 1), vi 0, vi a2] s5 (qi fun r17 s16 => F 0 s16)) ∧ (fI s5 (aR s5 (fR s5 a1 3) 0) 10 = 0 → ck iv L h0 d 173 [vr a0, vi 9, vi r6] s5 (qi fun r19 s18 => (kl s18 (aR s5 (fR s5 a1 3) 0) = 5) ∧ (kl s18 a1 = 5) ∧ (kl s18 (fR s18 a1 3) = 103) ∧ ((0 : Int) ≤ 1 ∧ 1 < le s18 (fR s18 a1 3)) ∧ (kl s18 a0 = 3) ∧ ck iv L h0 d 165 [vr a0, vr (aR s18 (fR s18 a1 3) 1), vi 0, vi a2] (uI s18 (aR s5 (fR s5 a1 3) 0) 10 r19) (qi fun r26 s25 => F 0 s25))))) ∧ (aI s5 (fR s5 (fR s5 a0 0) 0) r6 = 3 → (kl s5 a1 = 5) ∧ (kl s5 (fR s5 a1 3) = 103) ∧ ((0 : Int) ≤ 1 ∧ 1 < le s5 (fR s5 a1 3)) ∧ (kl s5 (fR s5 (fR s5 a0 0) 1) = 100) ∧ (0 ≤ r6 ∧ r6 < le s5 (fR s5 (fR s5 a0 0) 1)) ∧ ck iv L h0 d 165 [vr a0, vr (aR s5 (fR s5 a1 3) 1), vi (aI s5 (fR s5 (fR s5 a0 0) 1) r6), vi a2] s5 (qi fun r33 s32 => (kl s32 a0 = 3) ∧ (kl s32 (fR s32 a0 0) = 4) ∧ (kl s32 (fR s32 (fR s32 a0 0) 2) = 100) ∧ (0 ≤ r6 ∧ r6 < le s32 (fR s32 (fR s32 a0 0) 2)) ∧ F (aI s32 (fR s32 (fR s32 a0 0) 2) r6) s32))))) : ck iv L h0 (d + 1) 169 [vr a0, vr a1, vi a2] s (qi F) := by
  show wk iv L h0 (d + 1) 169 0 [lr a0, lr a1, li a2] [] s (qi F)
  refine w_aload_n rfl rfl ?_
  refine w_aload_n rfl rfl ?_
  obtain ⟨g1, H⟩ := H
  refine c_getr rfl rfl rfl g1 ?_
  refine w_iconst (n := 0) rfl rfl ?_
  obtain ⟨g2, H⟩ := H
  obtain ⟨g3, H⟩ := H
  refine c_aald (t := 3) rfl ⟨g2, by decide, by decide⟩ g3 ?_
  refine w_iconst (n := (-1)) rfl rfl ?_
  refine w_iload_n rfl rfl ?_
  obtain ⟨g4, H⟩ := H
  refine c_virt (p := a0) (as := [vr (aR s (fR s a1 3) 0), vi (-1), vi a2]) (r := []) rfl rfl rfl rfl rfl rfl g4 (wc_mono H (Nat.le_refl _) ?_)
  rintro _ s5 ⟨r6, rfl, H⟩
  show wk iv L h0 (d + 1) 169 12 [lr a0, lr a1, li a2] [vi r6] s5 (qi F)
  refine w_istore_n rfl rfl ?_
  refine w_aload_n rfl rfl ?_
  obtain ⟨g7, H⟩ := H
  refine c_getr rfl rfl rfl g7 ?_
  obtain ⟨g8, H⟩ := H
  refine c_getr rfl rfl rfl g8 ?_
  refine w_iload_n rfl rfl ?_
  obtain ⟨g9, H⟩ := H
  obtain ⟨g10, H⟩ := H
  refine c_ald rfl g9 g10 ?_
  refine w_iconst (n := 3) rfl rfl ?_
  refine w_icmp_ne rfl (fun h => ?_) (fun h => ?_)
  · replace H := H.1 h
    refine w_aload_n rfl rfl ?_
    obtain ⟨g11, H⟩ := H
    refine c_getr rfl rfl rfl g11 ?_
    refine w_iconst (n := 0) rfl rfl ?_
    obtain ⟨g12, H⟩ := H
    obtain ⟨g13, H⟩ := H
    refine c_aald (t := 3) rfl ⟨g12, by decide, by decide⟩ g13 ?_
    obtain ⟨g14, H⟩ := H
    refine c_get rfl rfl rfl g14 ?_
    refine w_if_ne rfl (fun h => ?_) (fun h => ?_)
    · replace H := H.1 h
      refine w_aload_n rfl rfl ?_
      refine w_aload_n rfl rfl ?_
      refine c_getr rfl rfl rfl g11 ?_
      refine w_iconst (n := 1) rfl rfl ?_
      obtain ⟨g15, H⟩ := H
      refine c_aald (t := 3) rfl ⟨g12, by decide, by decide⟩ g15 ?_
      refine w_iconst (n := 0) rfl rfl ?_
      refine w_iload_n rfl rfl ?_
      refine c_virt (p := a0) (as := [vr (aR s5 (fR s5 a1 3) 1), vi 0, vi a2]) (r := []) rfl rfl rfl rfl rfl rfl g7 (wc_mono H (Nat.le_refl _) ?_)
      rintro _ s16 ⟨r17, rfl, H⟩
      show wk iv L h0 (d + 1) 169 97 [lr a0, lr a1, li a2, li r6] [vi r17] s16 (qi F)
      refine w_pop rfl rfl ?_
      refine w_iconst (n := 0) rfl rfl ?_
      exact w_iret rfl rfl ⟨_, rfl, H⟩
    · replace H := H.2 h
      refine w_aload_n rfl rfl ?_
      refine c_getr rfl rfl rfl g11 ?_
      refine w_iconst (n := 0) rfl rfl ?_
      refine c_aald (t := 3) rfl ⟨g12, by decide, by decide⟩ g13 ?_
      refine w_aload_n rfl rfl ?_
      refine w_bipush (n := 9) rfl rfl rfl ?_
      refine w_iload_n rfl rfl ?_
      refine c_virt (p := a0) (as := [vi 9, vi r6]) (r := [vr (aR s5 (fR s5 a1 3) 0)]) rfl rfl rfl rfl rfl rfl g7 (wc_mono H (Nat.le_refl _) ?_)
      rintro _ s18 ⟨r19, rfl, H⟩
      show wk iv L h0 (d + 1) 169 82 [lr a0, lr a1, li a2, li r6] [vi r19, vr (aR s5 (fR s5 a1 3) 0)] s18 (qi F)
      obtain ⟨g20, H⟩ := H
      refine c_put rfl rfl rfl rfl g20 ?_
      refine w_aload_n rfl rfl ?_
      refine w_aload_n rfl rfl ?_
      obtain ⟨g21, H⟩ := H
      refine c_getr rfl rfl rfl g21 ?_
      show wk iv L h0 (d + 1) 169 90 [lr a0, lr a1, li a2, li r6] [vr (fR s18 a1 3), vr a0] (uI s18 (aR s5 (fR s5 a1 3) 0) 10 r19) (qi F)
      refine w_iconst (n := 1) rfl rfl ?_
      obtain ⟨g22, H⟩ := H
      obtain ⟨g23, H⟩ := H
      refine c_aald (t := 3) rfl ⟨g22, by decide, by decide⟩ g23 ?_
      show wk iv L h0 (d + 1) 169 92 [lr a0, lr a1, li a2, li r6] [vr (aR s18 (fR s18 a1 3) 1), vr a0] (uI s18 (aR s5 (fR s5 a1 3) 0) 10 r19) (qi F)
      refine w_iconst (n := 0) rfl rfl ?_
      refine w_iload_n rfl rfl ?_
      obtain ⟨g24, H⟩ := H
      refine c_virt (p := a0) (as := [vr (aR s18 (fR s18 a1 3) 1), vi 0, vi a2]) (r := []) rfl rfl rfl rfl rfl rfl g24 (wc_mono H (Nat.le_refl _) ?_)
      rintro _ s25 ⟨r26, rfl, H⟩
      show wk iv L h0 (d + 1) 169 97 [lr a0, lr a1, li a2, li r6] [vi r26] s25 (qi F)
      refine w_pop rfl rfl ?_
      refine w_iconst (n := 0) rfl rfl ?_
      exact w_iret rfl rfl ⟨_, rfl, H⟩
  · replace H := H.2 h
    refine w_aload_n rfl rfl ?_
    refine w_aload_n rfl rfl ?_
    obtain ⟨g27, H⟩ := H
    refine c_getr rfl rfl rfl g27 ?_
    refine w_iconst (n := 1) rfl rfl ?_
    obtain ⟨g28, H⟩ := H
    obtain ⟨g29, H⟩ := H
    refine c_aald (t := 3) rfl ⟨g28, by decide, by decide⟩ g29 ?_
    refine w_aload_n rfl rfl ?_
    refine c_getr rfl rfl rfl g7 ?_
    refine c_getr rfl rfl rfl g8 ?_
    refine w_iload_n rfl rfl ?_
    obtain ⟨g30, H⟩ := H
    obtain ⟨g31, H⟩ := H
    refine c_ald rfl g30 g31 ?_
    refine w_iload_n rfl rfl ?_
    refine c_virt (p := a0) (as := [vr (aR s5 (fR s5 a1 3) 1), vi (aI s5 (fR s5 (fR s5 a0 0) 1) r6), vi a2]) (r := []) rfl rfl rfl rfl rfl rfl g7 (wc_mono H (Nat.le_refl _) ?_)
    rintro _ s32 ⟨r33, rfl, H⟩
    show wk iv L h0 (d + 1) 169 46 [lr a0, lr a1, li a2, li r6] [vi r33] s32 (qi F)
    refine w_pop rfl rfl ?_
    refine w_aload_n rfl rfl ?_
    obtain ⟨g34, H⟩ := H
    refine c_getr rfl rfl rfl g34 ?_
    obtain ⟨g35, H⟩ := H
    refine c_getr rfl rfl rfl g35 ?_
    refine w_iload_n rfl rfl ?_
    obtain ⟨g36, H⟩ := H
    obtain ⟨g37, H⟩ := H
    refine c_ald rfl g36 g37 ?_
    exact w_iret rfl rfl ⟨_, rfl, H⟩

/-- HoleDesk$Judge.pickMakes(LHoleDesk$Node;II)I -/
theorem C170 {iv : List (Int × Int)} {L : Nat} {h0 : MH} {d : Nat} {s : SC} {a0 : Nat} {a1 : Nat} {a2 : Int} {a3 : Int} {F : Int → SC → Prop} (H : (kl s a1 = 5) ∧ (kl s (fR s a1 3) = 103) ∧ ((0 : Int) ≤ 0 ∧ 0 < le s (fR s a1 3)) ∧ (kl s a0 = 3) ∧ ck iv L h0 d 165 [vr a0, vr (aR s (fR s a1 3) 0), vi 2, vi a3] s (qi fun r6 s5 => (kl s5 a1 = 5) ∧ (kl s5 (fR s5 a1 3) = 103) ∧ ((0 : Int) ≤ 1 ∧ 1 < le s5 (fR s5 a1 3)) ∧ (kl s5 a0 = 3) ∧ ck iv L h0 d 165 [vr a0, vr (aR s5 (fR s5 a1 3) 1), vi a2, vi a3] s5 (qi fun r12 s11 => (kl s11 a1 = 5) ∧ (kl s11 (fR s11 a1 3) = 103) ∧ ((0 : Int) ≤ 2 ∧ 2 < le s11 (fR s11 a1 3)) ∧ (kl s11 a0 = 3) ∧ ck iv L h0 d 165 [vr a0, vr (aR s11 (fR s11 a1 3) 2), vi a2, vi a3] s11 (qi fun r18 s17 => ((a2 = (-1) → (kl s17 a0 = 3) ∧ (kl s17 (fR s17 a0 0) = 4) ∧ ck iv L h0 d 182 [vr (fR s17 a0 0), vi r12, vi r18] s17 (qi fun r22 s21 => ((r22 = 0 → (kl s21 a1 = 5) ∧ F 0 (uI s21 a1 10 5)) ∧ (r22 ≠ 0 → (kl s21 a0 = 3) ∧ (kl s21 (fR s21 a0 0) = 4) ∧ ck iv L h0 d 184 [vr (fR s21 a0 0), vi r12, vi r18, vi 0] s21 (qi fun r27 s26 => F r27 s26))))) ∧ (a2 ≠ (-1) → F a2 s17)))))) : ck iv L h0 (d + 1) 170 [vr a0, vr a1, vi a2, vi a3] s (qi F) := by
  show wk iv L h0 (d + 1) 170 0 [lr a0, lr a1, li a2, li a3] [] s (qi F)
  refine w_aload_n rfl rfl ?_
  refine w_aload_n rfl rfl ?_
  obtain ⟨g1, H⟩ := H
  refine c_getr rfl rfl rfl g1 ?_
  refine w_iconst (n := 0) rfl rfl ?_
  obtain ⟨g2, H⟩ := H
  obtain ⟨g3, H⟩ := H
  refine c_aald (t := 3) rfl ⟨g2, by decide, by decide⟩ g3 ?_
  refine w_iconst (n := 2) rfl rfl ?_
  refine w_iload_n rfl rfl ?_
  obtain ⟨g4, H⟩ := H
  refine c_virt (p := a0) (as := [vr (aR s (fR s a1 3) 0), vi 2, vi a3]) (r := []) rfl rfl rfl rfl rfl rfl g4 (wc_mono H (Nat.le_refl _) ?_)
  rintro _ s5 ⟨r6, rfl, H⟩
  show wk iv L h0 (d + 1) 170 12 [lr a0, lr a1, li a2, li a3] [vi r6] s5 (qi F)
  refine w_pop rfl rfl ?_
  refine w_aload_n rfl rfl ?_
  refine w_aload_n rfl rfl ?_
  obtain ⟨g7, H⟩ := H
  refine c_getr rfl rfl rfl g7 ?_
  refine w_iconst (n := 1) rfl rfl ?_
  obtain ⟨g8, H⟩ := H
  obtain ⟨g9, H⟩ := H
  refine c_aald (t := 3) rfl ⟨g8, by decide, by decide⟩ g9 ?_
  refine w_iload_n rfl rfl ?_
  refine w_iload_n rfl rfl ?_
  obtain ⟨g10, H⟩ := H
  refine c_virt (p := a0) (as := [vr (aR s5 (fR s5 a1 3) 1), vi a2, vi a3]) (r := []) rfl rfl rfl rfl rfl rfl g10 (wc_mono H (Nat.le_refl _) ?_)
  rintro _ s11 ⟨r12, rfl, H⟩
  show wk iv L h0 (d + 1) 170 25 [lr a0, lr a1, li a2, li a3] [vi r12] s11 (qi F)
  refine w_istore rfl rfl ?_
  refine w_aload_n rfl rfl ?_
  refine w_aload_n rfl rfl ?_
  obtain ⟨g13, H⟩ := H
  refine c_getr rfl rfl rfl g13 ?_
  refine w_iconst (n := 2) rfl rfl ?_
  obtain ⟨g14, H⟩ := H
  obtain ⟨g15, H⟩ := H
  refine c_aald (t := 3) rfl ⟨g14, by decide, by decide⟩ g15 ?_
  refine w_iload_n rfl rfl ?_
  refine w_iload_n rfl rfl ?_
  obtain ⟨g16, H⟩ := H
  refine c_virt (p := a0) (as := [vr (aR s11 (fR s11 a1 3) 2), vi a2, vi a3]) (r := []) rfl rfl rfl rfl rfl rfl g16 (wc_mono H (Nat.le_refl _) ?_)
  rintro _ s17 ⟨r18, rfl, H⟩
  show wk iv L h0 (d + 1) 170 39 [lr a0, lr a1, li a2, li a3, li r12] [vi r18] s17 (qi F)
  refine w_istore rfl rfl ?_
  refine w_iload_n rfl rfl ?_
  refine w_iconst (n := (-1)) rfl rfl ?_
  refine w_icmp_eq rfl (fun h => ?_) (fun h => ?_)
  · replace H := H.1 h
    refine w_aload_n rfl rfl ?_
    obtain ⟨g19, H⟩ := H
    refine c_getr rfl rfl rfl g19 ?_
    refine w_iload rfl rfl ?_
    refine w_iload rfl rfl ?_
    obtain ⟨g20, H⟩ := H
    refine c_virt (p := (fR s17 a0 0)) (as := [vi r12, vi r18]) (r := []) rfl rfl rfl rfl rfl rfl g20 (wc_mono H (Nat.le_refl _) ?_)
    rintro _ s21 ⟨r22, rfl, H⟩
    show wk iv L h0 (d + 1) 170 59 [lr a0, lr a1, li a2, li a3, li r12, li r18] [vi r22] s21 (qi F)
    refine w_if_eq rfl (fun h => ?_) (fun h => ?_)
    · replace H := H.1 h
      refine w_aload_n rfl rfl ?_
      refine w_iconst (n := 5) rfl rfl ?_
      obtain ⟨g23, H⟩ := H
      refine c_put rfl rfl rfl rfl g23 ?_
      refine w_iconst (n := 0) rfl rfl ?_
      exact w_iret rfl rfl ⟨_, rfl, H⟩
    · replace H := H.2 h
      refine w_aload_n rfl rfl ?_
      obtain ⟨g24, H⟩ := H
      refine c_getr rfl rfl rfl g24 ?_
      refine w_iload rfl rfl ?_
      refine w_iload rfl rfl ?_
      refine w_iconst (n := 0) rfl rfl ?_
      obtain ⟨g25, H⟩ := H
      refine c_virt (p := (fR s21 a0 0)) (as := [vi r12, vi r18, vi 0]) (r := []) rfl rfl rfl rfl rfl rfl g25 (wc_mono H (Nat.le_refl _) ?_)
      rintro _ s26 ⟨r27, rfl, H⟩
      show wk iv L h0 (d + 1) 170 74 [lr a0, lr a1, li a2, li a3, li r12, li r18] [vi r27] s26 (qi F)
      exact w_iret rfl rfl ⟨_, rfl, H⟩
  · replace H := H.2 h
    refine w_iload_n rfl rfl ?_
    exact w_iret rfl rfl ⟨_, rfl, H⟩

/-- HoleDesk$Judge.pairMakes(LHoleDesk$Node;II)I -/
theorem C171 {iv : List (Int × Int)} {L : Nat} {h0 : MH} {d : Nat} {s : SC} {a0 : Nat} {a1 : Nat} {a2 : Int} {a3 : Int} {F : Int → SC → Prop} (H : ((a2 ≠ 0 → ((a2 = (-1) → (kl s a1 = 5) ∧ (kl s (fR s a1 3) = 103) ∧ ((0 : Int) ≤ 0 ∧ 0 < le s (fR s a1 3)) ∧ (kl s a0 = 3) ∧ ck iv L h0 d 165 [vr a0, vr (aR s (fR s a1 3) 0), vi (-1), vi a3] s (qi fun r6 s5 => (kl s5 a1 = 5) ∧ (kl s5 (fR s5 a1 3) = 103) ∧ ((0 : Int) ≤ 1 ∧ 1 < le s5 (fR s5 a1 3)) ∧ (kl s5 a0 = 3) ∧ ck iv L h0 d 165 [vr a0, vr (aR s5 (fR s5 a1 3) 1), vi (-1), vi a3] s5 (qi fun r12 s11 => (kl s11 a0 = 3) ∧ (kl s11 (fR s11 a0 0) = 4) ∧ ck iv L h0 d 181 [vr (fR s11 a0 0), vi 4, vi r6, vi r12] s11 (qi fun r16 s15 => F r16 s15)))) ∧ (a2 ≠ (-1) → (kl s a0 = 3) ∧ (kl s (fR s a0 0) = 4) ∧ (kl s (fR s (fR s a0 0) 0) = 100) ∧ (0 ≤ a2 ∧ a2 < le s (fR s (fR s a0 0) 0)) ∧ ((aI s (fR s (fR s a0 0) 0) a2 ≠ 4 → (kl s a1 = 5) ∧ (kl s (fR s a1 3) = 103) ∧ ((0 : Int) ≤ 0 ∧ 0 < le s (fR s a1 3)) ∧ ck iv L h0 d 165 [vr a0, vr (aR s (fR s a1 3) 0), vi (-1), vi a3] s (qi fun r25 s24 => (kl s24 a1 = 5) ∧ (kl s24 (fR s24 a1 3) = 103) ∧ ((0 : Int) ≤ 1 ∧ 1 < le s24 (fR s24 a1 3)) ∧ (kl s24 a0 = 3) ∧ ck iv L h0 d 165 [vr a0, vr (aR s24 (fR s24 a1 3) 1), vi (-1), vi a3] s24 (qi fun r31 s30 => (kl s30 a0 = 3) ∧ (kl s30 (fR s30 a0 0) = 4) ∧ ck iv L h0 d 181 [vr (fR s30 a0 0), vi 4, vi r25, vi r31] s30 (qi fun r35 s34 => F r35 s34)))) ∧ (aI s (fR s (fR s a0 0) 0) a2 = 4 → (kl s (fR s (fR s a0 0) 1) = 100) ∧ (0 ≤ a2 ∧ a2 < le s (fR s (fR s a0 0) 1)) ∧ (kl s (fR s (fR s a0 0) 2) = 100) ∧ (0 ≤ a2 ∧ a2 < le s (fR s (fR s a0 0) 2)) ∧ (kl s a1 = 5) ∧ (kl s (fR s a1 3) = 103) ∧ ((0 : Int) ≤ 0 ∧ 0 < le s (fR s a1 3)) ∧ ck iv L h0 d 165 [vr a0, vr (aR s (fR s a1 3) 0), vi (aI s (fR s (fR s a0 0) 1) a2), vi a3] s (qi fun r44 s43 => (kl s43 a1 = 5) ∧ (kl s43 (fR s43 a1 3) = 103) ∧ ((0 : Int) ≤ 1 ∧ 1 < le s43 (fR s43 a1 3)) ∧ (kl s43 a0 = 3) ∧ ck iv L h0 d 165 [vr a0, vr (aR s43 (fR s43 a1 3) 1), vi (aI s (fR s (fR s a0 0) 2) a2), vi a3] s43 (qi fun r50 s49 => (kl s49 a0 = 3) ∧ (kl s49 (fR s49 a0 0) = 4) ∧ ck iv L h0 d 181 [vr (fR s49 a0 0), vi 4, vi r44, vi r50] s49 (qi fun r54 s53 => F r54 s53)))))))) ∧ (a2 = 0 → (kl s a1 = 5) ∧ (kl s (fR s a1 3) = 103) ∧ ((0 : Int) ≤ 0 ∧ 0 < le s (fR s a1 3)) ∧ (kl s a0 = 3) ∧ ck iv L h0 d 165 [vr a0, vr (aR s (fR s a1 3) 0), vi 0, vi a3] s (qi fun r60 s59 => (kl s59 a1 = 5) ∧ (kl s59 (fR s59 a1 3) = 103) ∧ ((0 : Int) ≤ 1 ∧ 1 < le s59 (fR s59 a1 3)) ∧ (kl s59 a0 = 3) ∧ ck iv L h0 d 165 [vr a0, vr (aR s59 (fR s59 a1 3) 1), vi 0, vi a3] s59 (qi fun r66 s65 => (kl s65 a0 = 3) ∧ (kl s65 (fR s65 a0 0) = 4) ∧ ck iv L h0 d 181 [vr (fR s65 a0 0), vi 4, vi r60, vi r66] s65 (qi fun r70 s69 => F r70 s69)))))) : ck iv L h0 (d + 1) 171 [vr a0, vr a1, vi a2, vi a3] s (qi F) := by
  show wk iv L h0 (d + 1) 171 0 [lr a0, lr a1, li a2, li a3] [] s (qi F)
  refine w_iconst (n := (-1)) rfl rfl ?_
  refine w_istore rfl rfl ?_
  refine w_iconst (n := (-1)) rfl rfl ?_
  refine w_istore rfl rfl ?_
  refine w_iload_n rfl rfl ?_
  refine w_if_ne rfl (fun h => ?_) (fun h => ?_)
  · replace H := H.1 h
    refine w_iload_n rfl rfl ?_
    refine w_iconst (n := (-1)) rfl rfl ?_
    refine w_icmp_eq rfl (fun h => ?_) (fun h => ?_)
    · replace H := H.1 h
      refine w_aload_n rfl rfl ?_
      refine w_aload_n rfl rfl ?_
      obtain ⟨g1, H⟩ := H
      refine c_getr rfl rfl rfl g1 ?_
      refine w_iconst (n := 0) rfl rfl ?_
      obtain ⟨g2, H⟩ := H
      obtain ⟨g3, H⟩ := H
      refine c_aald (t := 3) rfl ⟨g2, by decide, by decide⟩ g3 ?_
      refine w_iload rfl rfl ?_
      refine w_iload_n rfl rfl ?_
      obtain ⟨g4, H⟩ := H
      refine c_virt (p := a0) (as := [vr (aR s (fR s a1 3) 0), vi (-1), vi a3]) (r := []) rfl rfl rfl rfl rfl rfl g4 (wc_mono H (Nat.le_refl _) ?_)
      rintro _ s5 ⟨r6, rfl, H⟩
      show wk iv L h0 (d + 1) 171 72 [lr a0, lr a1, li a2, li a3, li (-1), li (-1)] [vi r6] s5 (qi F)
      refine w_istore rfl rfl ?_
      refine w_aload_n rfl rfl ?_
      refine w_aload_n rfl rfl ?_
      obtain ⟨g7, H⟩ := H
      refine c_getr rfl rfl rfl g7 ?_
      refine w_iconst (n := 1) rfl rfl ?_
      obtain ⟨g8, H⟩ := H
      obtain ⟨g9, H⟩ := H
      refine c_aald (t := 3) rfl ⟨g8, by decide, by decide⟩ g9 ?_
      refine w_iload rfl rfl ?_
      refine w_iload_n rfl rfl ?_
      obtain ⟨g10, H⟩ := H
      refine c_virt (p := a0) (as := [vr (aR s5 (fR s5 a1 3) 1), vi (-1), vi a3]) (r := []) rfl rfl rfl rfl rfl rfl g10 (wc_mono H (Nat.le_refl _) ?_)
      rintro _ s11 ⟨r12, rfl, H⟩
      show wk iv L h0 (d + 1) 171 87 [lr a0, lr a1, li a2, li a3, li (-1), li (-1), li r6] [vi r12] s11 (qi F)
      refine w_istore rfl rfl ?_
      refine w_aload_n rfl rfl ?_
      obtain ⟨g13, H⟩ := H
      refine c_getr rfl rfl rfl g13 ?_
      refine w_iconst (n := 4) rfl rfl ?_
      refine w_iload rfl rfl ?_
      refine w_iload rfl rfl ?_
      obtain ⟨g14, H⟩ := H
      refine c_virt (p := (fR s11 a0 0)) (as := [vi 4, vi r6, vi r12]) (r := []) rfl rfl rfl rfl rfl rfl g14 (wc_mono H (Nat.le_refl _) ?_)
      rintro _ s15 ⟨r16, rfl, H⟩
      show wk iv L h0 (d + 1) 171 101 [lr a0, lr a1, li a2, li a3, li (-1), li (-1), li r6, li r12] [vi r16] s15 (qi F)
      exact w_iret rfl rfl ⟨_, rfl, H⟩
    · replace H := H.2 h
      refine w_aload_n rfl rfl ?_
      obtain ⟨g17, H⟩ := H
      refine c_getr rfl rfl rfl g17 ?_
      obtain ⟨g18, H⟩ := H
      refine c_getr rfl rfl rfl g18 ?_
      refine w_iload_n rfl rfl ?_
      obtain ⟨g19, H⟩ := H
      obtain ⟨g20, H⟩ := H
      refine c_ald rfl g19 g20 ?_
      refine w_iconst (n := 4) rfl rfl ?_
      refine w_icmp_ne rfl (fun h => ?_) (fun h => ?_)
      · replace H := H.1 h
        refine w_aload_n rfl rfl ?_
        refine w_aload_n rfl rfl ?_
        obtain ⟨g21, H⟩ := H
        refine c_getr rfl rfl rfl g21 ?_
        refine w_iconst (n := 0) rfl rfl ?_
        obtain ⟨g22, H⟩ := H
        obtain ⟨g23, H⟩ := H
        refine c_aald (t := 3) rfl ⟨g22, by decide, by decide⟩ g23 ?_
        refine w_iload rfl rfl ?_
        refine w_iload_n rfl rfl ?_
        refine c_virt (p := a0) (as := [vr (aR s (fR s a1 3) 0), vi (-1), vi a3]) (r := []) rfl rfl rfl rfl rfl rfl g17 (wc_mono H (Nat.le_refl _) ?_)
        rintro _ s24 ⟨r25, rfl, H⟩
        show wk iv L h0 (d + 1) 171 72 [lr a0, lr a1, li a2, li a3, li (-1), li (-1)] [vi r25] s24 (qi F)
        refine w_istore rfl rfl ?_
        refine w_aload_n rfl rfl ?_
        refine w_aload_n rfl rfl ?_
        obtain ⟨g26, H⟩ := H
        refine c_getr rfl rfl rfl g26 ?_
        refine w_iconst (n := 1) rfl rfl ?_
        obtain ⟨g27, H⟩ := H
        obtain ⟨g28, H⟩ := H
        refine c_aald (t := 3) rfl ⟨g27, by decide, by decide⟩ g28 ?_
        refine w_iload rfl rfl ?_
        refine w_iload_n rfl rfl ?_
        obtain ⟨g29, H⟩ := H
        refine c_virt (p := a0) (as := [vr (aR s24 (fR s24 a1 3) 1), vi (-1), vi a3]) (r := []) rfl rfl rfl rfl rfl rfl g29 (wc_mono H (Nat.le_refl _) ?_)
        rintro _ s30 ⟨r31, rfl, H⟩
        show wk iv L h0 (d + 1) 171 87 [lr a0, lr a1, li a2, li a3, li (-1), li (-1), li r25] [vi r31] s30 (qi F)
        refine w_istore rfl rfl ?_
        refine w_aload_n rfl rfl ?_
        obtain ⟨g32, H⟩ := H
        refine c_getr rfl rfl rfl g32 ?_
        refine w_iconst (n := 4) rfl rfl ?_
        refine w_iload rfl rfl ?_
        refine w_iload rfl rfl ?_
        obtain ⟨g33, H⟩ := H
        refine c_virt (p := (fR s30 a0 0)) (as := [vi 4, vi r25, vi r31]) (r := []) rfl rfl rfl rfl rfl rfl g33 (wc_mono H (Nat.le_refl _) ?_)
        rintro _ s34 ⟨r35, rfl, H⟩
        show wk iv L h0 (d + 1) 171 101 [lr a0, lr a1, li a2, li a3, li (-1), li (-1), li r25, li r31] [vi r35] s34 (qi F)
        exact w_iret rfl rfl ⟨_, rfl, H⟩
      · replace H := H.2 h
        refine w_aload_n rfl rfl ?_
        refine c_getr rfl rfl rfl g17 ?_
        refine c_getr rfl rfl rfl g18 ?_
        refine w_iload_n rfl rfl ?_
        obtain ⟨g36, H⟩ := H
        obtain ⟨g37, H⟩ := H
        refine c_ald rfl g36 g37 ?_
        refine w_istore rfl rfl ?_
        refine w_aload_n rfl rfl ?_
        refine c_getr rfl rfl rfl g17 ?_
        refine c_getr rfl rfl rfl g18 ?_
        refine w_iload_n rfl rfl ?_
        obtain ⟨g38, H⟩ := H
        obtain ⟨g39, H⟩ := H
        refine c_ald rfl g38 g39 ?_
        refine w_istore rfl rfl ?_
        refine w_aload_n rfl rfl ?_
        refine w_aload_n rfl rfl ?_
        obtain ⟨g40, H⟩ := H
        refine c_getr rfl rfl rfl g40 ?_
        refine w_iconst (n := 0) rfl rfl ?_
        obtain ⟨g41, H⟩ := H
        obtain ⟨g42, H⟩ := H
        refine c_aald (t := 3) rfl ⟨g41, by decide, by decide⟩ g42 ?_
        refine w_iload rfl rfl ?_
        refine w_iload_n rfl rfl ?_
        refine c_virt (p := a0) (as := [vr (aR s (fR s a1 3) 0), vi (aI s (fR s (fR s a0 0) 1) a2), vi a3]) (r := []) rfl rfl rfl rfl rfl rfl g17 (wc_mono H (Nat.le_refl _) ?_)
        rintro _ s43 ⟨r44, rfl, H⟩
        show wk iv L h0 (d + 1) 171 72 [lr a0, lr a1, li a2, li a3, li (aI s (fR s (fR s a0 0) 1) a2), li (aI s (fR s (fR s a0 0) 2) a2)] [vi r44] s43 (qi F)
        refine w_istore rfl rfl ?_
        refine w_aload_n rfl rfl ?_
        refine w_aload_n rfl rfl ?_
        obtain ⟨g45, H⟩ := H
        refine c_getr rfl rfl rfl g45 ?_
        refine w_iconst (n := 1) rfl rfl ?_
        obtain ⟨g46, H⟩ := H
        obtain ⟨g47, H⟩ := H
        refine c_aald (t := 3) rfl ⟨g46, by decide, by decide⟩ g47 ?_
        refine w_iload rfl rfl ?_
        refine w_iload_n rfl rfl ?_
        obtain ⟨g48, H⟩ := H
        refine c_virt (p := a0) (as := [vr (aR s43 (fR s43 a1 3) 1), vi (aI s (fR s (fR s a0 0) 2) a2), vi a3]) (r := []) rfl rfl rfl rfl rfl rfl g48 (wc_mono H (Nat.le_refl _) ?_)
        rintro _ s49 ⟨r50, rfl, H⟩
        show wk iv L h0 (d + 1) 171 87 [lr a0, lr a1, li a2, li a3, li (aI s (fR s (fR s a0 0) 1) a2), li (aI s (fR s (fR s a0 0) 2) a2), li r44] [vi r50] s49 (qi F)
        refine w_istore rfl rfl ?_
        refine w_aload_n rfl rfl ?_
        obtain ⟨g51, H⟩ := H
        refine c_getr rfl rfl rfl g51 ?_
        refine w_iconst (n := 4) rfl rfl ?_
        refine w_iload rfl rfl ?_
        refine w_iload rfl rfl ?_
        obtain ⟨g52, H⟩ := H
        refine c_virt (p := (fR s49 a0 0)) (as := [vi 4, vi r44, vi r50]) (r := []) rfl rfl rfl rfl rfl rfl g52 (wc_mono H (Nat.le_refl _) ?_)
        rintro _ s53 ⟨r54, rfl, H⟩
        show wk iv L h0 (d + 1) 171 101 [lr a0, lr a1, li a2, li a3, li (aI s (fR s (fR s a0 0) 1) a2), li (aI s (fR s (fR s a0 0) 2) a2), li r44, li r50] [vi r54] s53 (qi F)
        exact w_iret rfl rfl ⟨_, rfl, H⟩
  · replace H := H.2 h
    refine w_iconst (n := 0) rfl rfl ?_
    refine w_istore rfl rfl ?_
    refine w_iconst (n := 0) rfl rfl ?_
    refine w_istore rfl rfl ?_
    refine w_goto rfl ?_
    refine w_aload_n rfl rfl ?_
    refine w_aload_n rfl rfl ?_
    obtain ⟨g55, H⟩ := H
    refine c_getr rfl rfl rfl g55 ?_
    refine w_iconst (n := 0) rfl rfl ?_
    obtain ⟨g56, H⟩ := H
    obtain ⟨g57, H⟩ := H
    refine c_aald (t := 3) rfl ⟨g56, by decide, by decide⟩ g57 ?_
    refine w_iload rfl rfl ?_
    refine w_iload_n rfl rfl ?_
    obtain ⟨g58, H⟩ := H
    refine c_virt (p := a0) (as := [vr (aR s (fR s a1 3) 0), vi 0, vi a3]) (r := []) rfl rfl rfl rfl rfl rfl g58 (wc_mono H (Nat.le_refl _) ?_)
    rintro _ s59 ⟨r60, rfl, H⟩
    show wk iv L h0 (d + 1) 171 72 [lr a0, lr a1, li a2, li a3, li 0, li 0] [vi r60] s59 (qi F)
    refine w_istore rfl rfl ?_
    refine w_aload_n rfl rfl ?_
    refine w_aload_n rfl rfl ?_
    obtain ⟨g61, H⟩ := H
    refine c_getr rfl rfl rfl g61 ?_
    refine w_iconst (n := 1) rfl rfl ?_
    obtain ⟨g62, H⟩ := H
    obtain ⟨g63, H⟩ := H
    refine c_aald (t := 3) rfl ⟨g62, by decide, by decide⟩ g63 ?_
    refine w_iload rfl rfl ?_
    refine w_iload_n rfl rfl ?_
    obtain ⟨g64, H⟩ := H
    refine c_virt (p := a0) (as := [vr (aR s59 (fR s59 a1 3) 1), vi 0, vi a3]) (r := []) rfl rfl rfl rfl rfl rfl g64 (wc_mono H (Nat.le_refl _) ?_)
    rintro _ s65 ⟨r66, rfl, H⟩
    show wk iv L h0 (d + 1) 171 87 [lr a0, lr a1, li a2, li a3, li 0, li 0, li r60] [vi r66] s65 (qi F)
    refine w_istore rfl rfl ?_
    refine w_aload_n rfl rfl ?_
    obtain ⟨g67, H⟩ := H
    refine c_getr rfl rfl rfl g67 ?_
    refine w_iconst (n := 4) rfl rfl ?_
    refine w_iload rfl rfl ?_
    refine w_iload rfl rfl ?_
    obtain ⟨g68, H⟩ := H
    refine c_virt (p := (fR s65 a0 0)) (as := [vi 4, vi r60, vi r66]) (r := []) rfl rfl rfl rfl rfl rfl g68 (wc_mono H (Nat.le_refl _) ?_)
    rintro _ s69 ⟨r70, rfl, H⟩
    show wk iv L h0 (d + 1) 171 101 [lr a0, lr a1, li a2, li a3, li 0, li 0, li r60, li r66] [vi r70] s69 (qi F)
    exact w_iret rfl rfl ⟨_, rfl, H⟩

/-- HoleDesk$Judge.halfMakes(LHoleDesk$Node;I)I -/
theorem C172 {iv : List (Int × Int)} {L : Nat} {h0 : MH} {d : Nat} {s : SC} {a0 : Nat} {a1 : Nat} {a2 : Int} {F : Int → SC → Prop} (H : (kl s a1 = 5) ∧ (kl s (fR s a1 3) = 103) ∧ ((0 : Int) ≤ 0 ∧ 0 < le s (fR s a1 3)) ∧ (kl s a0 = 3) ∧ ck iv L h0 d 165 [vr a0, vr (aR s (fR s a1 3) 0), vi (-1), vi a2] s (qi fun r6 s5 => (kl s5 a0 = 3) ∧ (kl s5 (fR s5 a0 0) = 4) ∧ (kl s5 (fR s5 (fR s5 a0 0) 0) = 100) ∧ (0 ≤ r6 ∧ r6 < le s5 (fR s5 (fR s5 a0 0) 0)) ∧ ((aI s5 (fR s5 (fR s5 a0 0) 0) r6 ≠ 4 → (kl s5 a1 = 5) ∧ (kl s5 (fR s5 a1 3) = 103) ∧ ((0 : Int) ≤ 0 ∧ 0 < le s5 (fR s5 a1 3)) ∧ (kl s5 (aR s5 (fR s5 a1 3) 0) = 5) ∧ ((fI s5 (aR s5 (fR s5 a1 3) 0) 10 ≠ 0 → F 0 s5) ∧ (fI s5 (aR s5 (fR s5 a1 3) 0) 10 = 0 → ck iv L h0 d 173 [vr a0, vi (fI s5 a1 1), vi r6] s5 (qi fun r16 s15 => (kl s15 (aR s5 (fR s5 a1 3) 0) = 5) ∧ F 0 (uI s15 (aR s5 (fR s5 a1 3) 0) 10 r16))))) ∧ (aI s5 (fR s5 (fR s5 a0 0) 0) r6 = 4 → (kl s5 a1 = 5) ∧ ((fI s5 a1 1 ≠ 13 → (kl s5 (fR s5 (fR s5 a0 0) 2) = 100) ∧ (0 ≤ r6 ∧ r6 < le s5 (fR s5 (fR s5 a0 0) 2)) ∧ F (aI s5 (fR s5 (fR s5 a0 0) 2) r6) s5) ∧ (fI s5 a1 1 = 13 → (kl s5 (fR s5 (fR s5 a0 0) 1) = 100) ∧ (0 ≤ r6 ∧ r6 < le s5 (fR s5 (fR s5 a0 0) 1)) ∧ F (aI s5 (fR s5 (fR s5 a0 0) 1) r6) s5)))))) : ck iv L h0 (d + 1) 172 [vr a0, vr a1, vi a2] s (qi F) := by
  show wk iv L h0 (d + 1) 172 0 [lr a0, lr a1, li a2] [] s (qi F)
  refine w_aload_n rfl rfl ?_
  refine w_aload_n rfl rfl ?_
  obtain ⟨g1, H⟩ := H
  refine c_getr rfl rfl rfl g1 ?_
  refine w_iconst (n := 0) rfl rfl ?_
  obtain ⟨g2, H⟩ := H
  obtain ⟨g3, H⟩ := H
  refine c_aald (t := 3) rfl ⟨g2, by decide, by decide⟩ g3 ?_
  refine w_iconst (n := (-1)) rfl rfl ?_
  refine w_iload_n rfl rfl ?_
  obtain ⟨g4, H⟩ := H
  refine c_virt (p := a0) (as := [vr (aR s (fR s a1 3) 0), vi (-1), vi a2]) (r := []) rfl rfl rfl rfl rfl rfl g4 (wc_mono H (Nat.le_refl _) ?_)
  rintro _ s5 ⟨r6, rfl, H⟩
  show wk iv L h0 (d + 1) 172 12 [lr a0, lr a1, li a2] [vi r6] s5 (qi F)
  refine w_istore_n rfl rfl ?_
  refine w_aload_n rfl rfl ?_
  obtain ⟨g7, H⟩ := H
  refine c_getr rfl rfl rfl g7 ?_
  obtain ⟨g8, H⟩ := H
  refine c_getr rfl rfl rfl g8 ?_
  refine w_iload_n rfl rfl ?_
  obtain ⟨g9, H⟩ := H
  obtain ⟨g10, H⟩ := H
  refine c_ald rfl g9 g10 ?_
  refine w_iconst (n := 4) rfl rfl ?_
  refine w_icmp_ne rfl (fun h => ?_) (fun h => ?_)
  · replace H := H.1 h
    refine w_aload_n rfl rfl ?_
    obtain ⟨g11, H⟩ := H
    refine c_getr rfl rfl rfl g11 ?_
    refine w_iconst (n := 0) rfl rfl ?_
    obtain ⟨g12, H⟩ := H
    obtain ⟨g13, H⟩ := H
    refine c_aald (t := 3) rfl ⟨g12, by decide, by decide⟩ g13 ?_
    obtain ⟨g14, H⟩ := H
    refine c_get rfl rfl rfl g14 ?_
    refine w_if_ne rfl (fun h => ?_) (fun h => ?_)
    · replace H := H.1 h
      refine w_iconst (n := 0) rfl rfl ?_
      exact w_iret rfl rfl ⟨_, rfl, H⟩
    · replace H := H.2 h
      refine w_aload_n rfl rfl ?_
      refine c_getr rfl rfl rfl g11 ?_
      refine w_iconst (n := 0) rfl rfl ?_
      refine c_aald (t := 3) rfl ⟨g12, by decide, by decide⟩ g13 ?_
      refine w_aload_n rfl rfl ?_
      refine w_aload_n rfl rfl ?_
      refine c_get rfl rfl rfl g11 ?_
      refine w_iload_n rfl rfl ?_
      refine c_virt (p := a0) (as := [vi (fI s5 a1 1), vi r6]) (r := [vr (aR s5 (fR s5 a1 3) 0)]) rfl rfl rfl rfl rfl rfl g7 (wc_mono H (Nat.le_refl _) ?_)
      rintro _ s15 ⟨r16, rfl, H⟩
      show wk iv L h0 (d + 1) 172 84 [lr a0, lr a1, li a2, li r6] [vi r16, vr (aR s5 (fR s5 a1 3) 0)] s15 (qi F)
      obtain ⟨g17, H⟩ := H
      refine c_put rfl rfl rfl rfl g17 ?_
      refine w_iconst (n := 0) rfl rfl ?_
      exact w_iret rfl rfl ⟨_, rfl, H⟩
  · replace H := H.2 h
    refine w_aload_n rfl rfl ?_
    obtain ⟨g18, H⟩ := H
    refine c_get rfl rfl rfl g18 ?_
    refine w_bipush (n := 13) rfl rfl rfl ?_
    refine w_icmp_ne rfl (fun h => ?_) (fun h => ?_)
    · replace H := H.1 h
      refine w_aload_n rfl rfl ?_
      refine c_getr rfl rfl rfl g7 ?_
      refine c_getr rfl rfl rfl g8 ?_
      refine w_iload_n rfl rfl ?_
      obtain ⟨g19, H⟩ := H
      obtain ⟨g20, H⟩ := H
      refine c_ald rfl g19 g20 ?_
      exact w_iret rfl rfl ⟨_, rfl, H⟩
    · replace H := H.2 h
      refine w_aload_n rfl rfl ?_
      refine c_getr rfl rfl rfl g7 ?_
      refine c_getr rfl rfl rfl g8 ?_
      refine w_iload_n rfl rfl ?_
      obtain ⟨g21, H⟩ := H
      obtain ⟨g22, H⟩ := H
      refine c_ald rfl g21 g22 ?_
      refine w_goto rfl ?_
      exact w_iret rfl rfl ⟨_, rfl, H⟩

/-- HoleDesk$Judge.reasonBelow(II)I -/
theorem C173 {iv : List (Int × Int)} {L : Nat} {h0 : MH} {d : Nat} {s : SC} {a0 : Nat} {a1 : Int} {a2 : Int} {F : Int → SC → Prop} (H : (kl s a0 = 3) ∧ (kl s (fR s a0 0) = 4) ∧ (kl s (fR s (fR s a0 0) 0) = 100) ∧ (0 ≤ a2 ∧ a2 < le s (fR s (fR s a0 0) 0)) ∧ ((a1 ≠ 9 → ((a1 = 13 → ((aI s (fR s (fR s a0 0) 0) a2 = 4 → F 0 s) ∧ (aI s (fR s (fR s a0 0) 0) a2 ≠ 4 → ((aI s (fR s (fR s a0 0) 0) a2 ≠ 0 → F 3 s) ∧ (aI s (fR s (fR s a0 0) 0) a2 = 0 → F 0 s))))) ∧ (a1 ≠ 13 → ((a1 ≠ 14 → F 0 s) ∧ (a1 = 14 → ((aI s (fR s (fR s a0 0) 0) a2 = 4 → F 0 s) ∧ (aI s (fR s (fR s a0 0) 0) a2 ≠ 4 → ((aI s (fR s (fR s a0 0) 0) a2 ≠ 0 → F 3 s) ∧ (aI s (fR s (fR s a0 0) 0) a2 = 0 → F 0 s))))))))) ∧ (a1 = 9 → ((aI s (fR s (fR s a0 0) 0) a2 = 3 → F 0 s) ∧ (aI s (fR s (fR s a0 0) 0) a2 ≠ 3 → ((aI s (fR s (fR s a0 0) 0) a2 ≠ 0 → F 2 s) ∧ (aI s (fR s (fR s a0 0) 0) a2 = 0 → F 0 s))))))) : ck iv L h0 d 173 [vr a0, vi a1, vi a2] s (qi F) := by
  show wk iv L h0 d 173 0 [lr a0, li a1, li a2] [] s (qi F)
  refine w_aload_n rfl rfl ?_
  obtain ⟨g1, H⟩ := H
  refine c_getr rfl rfl rfl g1 ?_
  obtain ⟨g2, H⟩ := H
  refine c_getr rfl rfl rfl g2 ?_
  refine w_iload_n rfl rfl ?_
  obtain ⟨g3, H⟩ := H
  obtain ⟨g4, H⟩ := H
  refine c_ald rfl g3 g4 ?_
  refine w_istore_n rfl rfl ?_
  refine w_iload_n rfl rfl ?_
  refine w_bipush (n := 9) rfl rfl rfl ?_
  refine w_icmp_ne rfl (fun h => ?_) (fun h => ?_)
  · replace H := H.1 h
    refine w_iload_n rfl rfl ?_
    refine w_bipush (n := 13) rfl rfl rfl ?_
    refine w_icmp_eq rfl (fun h => ?_) (fun h => ?_)
    · replace H := H.1 h
      refine w_iload_n rfl rfl ?_
      refine w_iconst (n := 4) rfl rfl ?_
      refine w_icmp_eq rfl (fun h => ?_) (fun h => ?_)
      · replace H := H.1 h
        refine w_iconst (n := 0) rfl rfl ?_
        refine w_goto rfl ?_
        exact w_iret rfl rfl ⟨_, rfl, H⟩
      · replace H := H.2 h
        refine w_iload_n rfl rfl ?_
        refine w_if_ne rfl (fun h => ?_) (fun h => ?_)
        · replace H := H.1 h
          refine w_iconst (n := 3) rfl rfl ?_
          exact w_iret rfl rfl ⟨_, rfl, H⟩
        · replace H := H.2 h
          refine w_iconst (n := 0) rfl rfl ?_
          refine w_goto rfl ?_
          exact w_iret rfl rfl ⟨_, rfl, H⟩
    · replace H := H.2 h
      refine w_iload_n rfl rfl ?_
      refine w_bipush (n := 14) rfl rfl rfl ?_
      refine w_icmp_ne rfl (fun h => ?_) (fun h => ?_)
      · replace H := H.1 h
        refine w_iconst (n := 0) rfl rfl ?_
        exact w_iret rfl rfl ⟨_, rfl, H⟩
      · replace H := H.2 h
        refine w_iload_n rfl rfl ?_
        refine w_iconst (n := 4) rfl rfl ?_
        refine w_icmp_eq rfl (fun h => ?_) (fun h => ?_)
        · replace H := H.1 h
          refine w_iconst (n := 0) rfl rfl ?_
          refine w_goto rfl ?_
          exact w_iret rfl rfl ⟨_, rfl, H⟩
        · replace H := H.2 h
          refine w_iload_n rfl rfl ?_
          refine w_if_ne rfl (fun h => ?_) (fun h => ?_)
          · replace H := H.1 h
            refine w_iconst (n := 3) rfl rfl ?_
            exact w_iret rfl rfl ⟨_, rfl, H⟩
          · replace H := H.2 h
            refine w_iconst (n := 0) rfl rfl ?_
            refine w_goto rfl ?_
            exact w_iret rfl rfl ⟨_, rfl, H⟩
  · replace H := H.2 h
    refine w_iload_n rfl rfl ?_
    refine w_iconst (n := 3) rfl rfl ?_
    refine w_icmp_eq rfl (fun h => ?_) (fun h => ?_)
    · replace H := H.1 h
      refine w_iconst (n := 0) rfl rfl ?_
      refine w_goto rfl ?_
      exact w_iret rfl rfl ⟨_, rfl, H⟩
    · replace H := H.2 h
      refine w_iload_n rfl rfl ?_
      refine w_if_ne rfl (fun h => ?_) (fun h => ?_)
      · replace H := H.1 h
        refine w_iconst (n := 2) rfl rfl ?_
        exact w_iret rfl rfl ⟨_, rfl, H⟩
      · replace H := H.2 h
        refine w_iconst (n := 0) rfl rfl ?_
        refine w_goto rfl ?_
        exact w_iret rfl rfl ⟨_, rfl, H⟩

/-- HoleDesk$Kinds.<init>()V -/
theorem C174 {iv : List (Int × Int)} {L : Nat} {h0 : MH} {d : Nat} {s : SC} {a0 : Nat} {F : SC → Prop} (H : (a0 ≠ 2) ∧ (353 ≤ nxt s) ∧ (kl (nA s 0 1440) a0 = 4) ∧ (353 ≤ nxt s + 1) ∧ (kl (nA (nA s 0 1440) 0 1440) a0 = 4) ∧ (353 ≤ nxt s + 2) ∧ (kl (nA (nA (nA s 0 1440) 0 1440) 0 1440) a0 = 4) ∧ (353 ≤ nxt s + 3) ∧ (kl (nA (nA (nA (nA s 0 1440) 0 1440) 0 1440) 0 1440) a0 = 4) ∧ wk iv L h0 (d + 1) 174 53 [lr a0, li 0] [] (uI (uI (uR (nA (uR (nA (uR (nA (uR (nA s 0 1440) a0 0 (nxt s)) 0 1440) a0 1 (nxt s + 1)) 0 1440) a0 2 (nxt s + 2)) 0 1440) a0 3 (nxt s + 3)) a0 4 0) a0 5 40) (qv F)) : ck iv L h0 (d + 1) 174 [vr a0] s (qv F) := by
  show wk iv L h0 (d + 1) 174 0 [lr a0] [] s (qv F)
  refine w_aload_n rfl rfl ?_
  obtain ⟨g1, H⟩ := H
  refine c_oinit rfl rfl g1 ?_
  refine w_aload_n rfl rfl ?_
  refine w_sipush (n := 1440) rfl rfl rfl ?_
  obtain ⟨g2, H⟩ := H
  refine c_newa rfl rfl ⟨by decide, by decide⟩ g2 ?_
  show wk iv L h0 (d + 1) 174 10 [lr a0] [vr (nxt s), vr a0] (nA s 0 1440) (qv F)
  obtain ⟨g3, H⟩ := H
  refine c_putr rfl rfl rfl rfl g3 ?_
  refine w_aload_n rfl rfl ?_
  refine w_sipush (n := 1440) rfl rfl rfl ?_
  obtain ⟨g4, H⟩ := H
  refine c_newa rfl rfl ⟨by decide, by decide⟩ g4 ?_
  show wk iv L h0 (d + 1) 174 19 [lr a0] [vr (nxt s + 1), vr a0] (nA (uR (nA s 0 1440) a0 0 (nxt s)) 0 1440) (qv F)
  obtain ⟨g5, H⟩ := H
  refine c_putr rfl rfl rfl rfl g5 ?_
  refine w_aload_n rfl rfl ?_
  refine w_sipush (n := 1440) rfl rfl rfl ?_
  obtain ⟨g6, H⟩ := H
  refine c_newa rfl rfl ⟨by decide, by decide⟩ g6 ?_
  show wk iv L h0 (d + 1) 174 28 [lr a0] [vr (nxt s + 2), vr a0] (nA (uR (nA (uR (nA s 0 1440) a0 0 (nxt s)) 0 1440) a0 1 (nxt s + 1)) 0 1440) (qv F)
  obtain ⟨g7, H⟩ := H
  refine c_putr rfl rfl rfl rfl g7 ?_
  refine w_aload_n rfl rfl ?_
  refine w_sipush (n := 1440) rfl rfl rfl ?_
  obtain ⟨g8, H⟩ := H
  refine c_newa rfl rfl ⟨by decide, by decide⟩ g8 ?_
  show wk iv L h0 (d + 1) 174 37 [lr a0] [vr (nxt s + 3), vr a0] (nA (uR (nA (uR (nA (uR (nA s 0 1440) a0 0 (nxt s)) 0 1440) a0 1 (nxt s + 1)) 0 1440) a0 2 (nxt s + 2)) 0 1440) (qv F)
  obtain ⟨g9, H⟩ := H
  refine c_putr rfl rfl rfl rfl g9 ?_
  refine w_aload_n rfl rfl ?_
  refine w_iconst (n := 0) rfl rfl ?_
  refine c_put rfl rfl rfl rfl g9 ?_
  refine w_aload_n rfl rfl ?_
  refine w_bipush (n := 40) rfl rfl rfl ?_
  refine c_put rfl rfl rfl rfl g9 ?_
  refine w_iconst (n := 0) rfl rfl ?_
  refine w_istore_n rfl rfl ?_
  exact wp_ls (sl_s (sl_s (sl_0))) H

/-- HoleDesk$Kinds.<init>()V at 53 -/
theorem C174_53 {iv : List (Int × Int)} {L : Nat} {h0 : MH} {d : Nat} {s : SC} {l0 : Nat} {l1 : Int} {F : SC → Prop} (H : ((2 < l1 → (kl s l0 = 4) ∧ F (uI s l0 4 3)) ∧ (l1 ≤ 2 → (kl s l0 = 4) ∧ ck iv L h0 d 175 [vr l0, vi l1, vi l1, vi (-9), vi (-9), vi 1] s (qv fun s3 => (-2147483648 ≤ l1 + 1 ∧ l1 + 1 ≤ 2147483647) ∧ wk iv L h0 (d + 1) 174 53 [lr l0, li (l1 + 1)] [] s3 (qv F))))) : wk iv L h0 (d + 1) 174 53 [lr l0, li l1] [] s (qv F) := by
  refine w_iload_n rfl rfl ?_
  refine w_iconst (n := 2) rfl rfl ?_
  refine w_icmp_gt rfl (fun h => ?_) (fun h => ?_)
  · replace H := H.1 h
    refine w_aload_n rfl rfl ?_
    refine w_iconst (n := 3) rfl rfl ?_
    obtain ⟨g1, H⟩ := H
    refine c_put rfl rfl rfl rfl g1 ?_
    exact w_ret rfl rfl ⟨rfl, H⟩
  · replace H := H.2 h
    refine w_aload_n rfl rfl ?_
    refine w_iload_n rfl rfl ?_
    refine w_iload_n rfl rfl ?_
    refine w_bipush (n := (-9)) rfl rfl rfl ?_
    refine w_bipush (n := (-9)) rfl rfl rfl ?_
    refine w_iconst (n := 1) rfl rfl ?_
    obtain ⟨g2, H⟩ := H
    refine c_virt (p := l0) (as := [vi l1, vi l1, vi (-9), vi (-9), vi 1]) (r := []) rfl rfl rfl rfl rfl rfl g2 (wc_mono H (Nat.le_refl _) ?_)
    rintro _ s3 ⟨rfl, H⟩
    show wk iv L h0 (d + 1) 174 69 [lr l0, li l1] [] s3 (qv F)
    obtain ⟨g4, H⟩ := H
    refine w_iinc rfl rfl rfl g4 ?_
    refine w_goto rfl ?_
    exact wp_ls (sl_s (sl_s (sl_0))) H

/-- HoleDesk$Kinds.setRow(IIIII)V -/
theorem C175 {iv : List (Int × Int)} {L : Nat} {h0 : MH} {d : Nat} {s : SC} {a0 : Nat} {a1 : Int} {a2 : Int} {a3 : Int} {a4 : Int} {a5 : Int} {F : SC → Prop} (H : (kl s a0 = 4) ∧ (kl s (fR s a0 0) = 100) ∧ (0 ≤ a1 ∧ a1 < le s (fR s a0 0)) ∧ (kl s (fR s a0 1) = 100) ∧ (0 ≤ a1 ∧ a1 < le s (fR s a0 1)) ∧ (kl s (fR s a0 2) = 100) ∧ (0 ≤ a1 ∧ a1 < le s (fR s a0 2)) ∧ (kl s (fR s a0 3) = 100) ∧ (0 ≤ a1 ∧ a1 < le s (fR s a0 3)) ∧ F (uA (uA (uA (uA s (fR s a0 0) a1 a2) (fR s a0 1) a1 a3) (fR s a0 2) a1 a4) (fR s a0 3) a1 a5)) : ck iv L h0 d 175 [vr a0, vi a1, vi a2, vi a3, vi a4, vi a5] s (qv F) := by
  show wk iv L h0 d 175 0 [lr a0, li a1, li a2, li a3, li a4, li a5] [] s (qv F)
  refine w_aload_n rfl rfl ?_
  obtain ⟨g1, H⟩ := H
  refine c_getr rfl rfl rfl g1 ?_
  refine w_iload_n rfl rfl ?_
  refine w_iload_n rfl rfl ?_
  obtain ⟨g2, H⟩ := H
  obtain ⟨g3, H⟩ := H
  refine c_ast rfl g2 g3 ?_
  refine w_aload_n rfl rfl ?_
  refine c_getr rfl rfl rfl g1 ?_
  show wk iv L h0 d 175 11 [lr a0, li a1, li a2, li a3, li a4, li a5] [vr (fR s a0 1)] (uA s (fR s a0 0) a1 a2) (qv F)
  refine w_iload_n rfl rfl ?_
  refine w_iload_n rfl rfl ?_
  obtain ⟨g4, H⟩ := H
  obtain ⟨g5, H⟩ := H
  refine c_ast rfl g4 g5 ?_
  refine w_aload_n rfl rfl ?_
  refine c_getr rfl rfl rfl g1 ?_
  show wk iv L h0 d 175 18 [lr a0, li a1, li a2, li a3, li a4, li a5] [vr (fR s a0 2)] (uA (uA s (fR s a0 0) a1 a2) (fR s a0 1) a1 a3) (qv F)
  refine w_iload_n rfl rfl ?_
  refine w_iload rfl rfl ?_
  obtain ⟨g6, H⟩ := H
  obtain ⟨g7, H⟩ := H
  refine c_ast rfl g6 g7 ?_
  refine w_aload_n rfl rfl ?_
  refine c_getr rfl rfl rfl g1 ?_
  show wk iv L h0 d 175 26 [lr a0, li a1, li a2, li a3, li a4, li a5] [vr (fR s a0 3)] (uA (uA (uA s (fR s a0 0) a1 a2) (fR s a0 1) a1 a3) (fR s a0 2) a1 a4) (qv F)
  refine w_iload_n rfl rfl ?_
  refine w_iload rfl rfl ?_
  obtain ⟨g8, H⟩ := H
  obtain ⟨g9, H⟩ := H
  refine c_ast rfl g8 g9 ?_
  exact w_ret rfl rfl ⟨rfl, H⟩

/-- HoleDesk$Kinds.has(I)Z -/
theorem C176 {iv : List (Int × Int)} {L : Nat} {h0 : MH} {d : Nat} {s : SC} {a0 : Nat} {a1 : Int} {F : Int → SC → Prop} (H : ((a1 < 0 → F 0 s) ∧ (0 ≤ a1 → (kl s a0 = 4) ∧ ((fI s a0 4 ≤ a1 → F 0 s) ∧ (a1 < fI s a0 4 → F 1 s))))) : ck iv L h0 d 176 [vr a0, vi a1] s (qi F) := by
  show wk iv L h0 d 176 0 [lr a0, li a1] [] s (qi F)
  refine w_iload_n rfl rfl ?_
  refine w_if_lt rfl (fun h => ?_) (fun h => ?_)
  · replace H := H.1 h
    refine w_iconst (n := 0) rfl rfl ?_
    exact w_iretz rfl rfl (by decide) ⟨_, rfl, H⟩
  · replace H := H.2 h
    refine w_iload_n rfl rfl ?_
    refine w_aload_n rfl rfl ?_
    obtain ⟨g1, H⟩ := H
    refine c_get rfl rfl rfl g1 ?_
    refine w_icmp_ge rfl (fun h => ?_) (fun h => ?_)
    · replace H := H.1 h
      refine w_iconst (n := 0) rfl rfl ?_
      exact w_iretz rfl rfl (by decide) ⟨_, rfl, H⟩
    · replace H := H.2 h
      refine w_iconst (n := 1) rfl rfl ?_
      refine w_goto rfl ?_
      exact w_iretz rfl rfl (by decide) ⟨_, rfl, H⟩

/-- HoleDesk$Kinds.sizeWith(II)I -/
theorem C177 {iv : List (Int × Int)} {L : Nat} {h0 : MH} {d : Nat} {s : SC} {a0 : Nat} {a1 : Int} {a2 : Int} {F : Int → SC → Prop} (H : (kl s a0 = 4) ∧ (kl s (fR s a0 3) = 100) ∧ (0 ≤ a1 ∧ a1 < le s (fR s a0 3)) ∧ (-2147483648 ≤ 1 + (aI s (fR s a0 3) a1) ∧ 1 + (aI s (fR s a0 3) a1) ≤ 2147483647) ∧ (0 ≤ a2 ∧ a2 < le s (fR s a0 3)) ∧ (-2147483648 ≤ (1 + (aI s (fR s a0 3) a1)) + (aI s (fR s a0 3) a2) ∧ (1 + (aI s (fR s a0 3) a1)) + (aI s (fR s a0 3) a2) ≤ 2147483647) ∧ F ((1 + (aI s (fR s a0 3) a1)) + (aI s (fR s a0 3) a2)) s) : ck iv L h0 d 177 [vr a0, vi a1, vi a2] s (qi F) := by
  show wk iv L h0 d 177 0 [lr a0, li a1, li a2] [] s (qi F)
  refine w_iconst (n := 1) rfl rfl ?_
  refine w_aload_n rfl rfl ?_
  obtain ⟨g1, H⟩ := H
  refine c_getr rfl rfl rfl g1 ?_
  refine w_iload_n rfl rfl ?_
  obtain ⟨g2, H⟩ := H
  obtain ⟨g3, H⟩ := H
  refine c_ald rfl g2 g3 ?_
  obtain ⟨g4, H⟩ := H
  refine w_iadd rfl g4 ?_
  refine w_aload_n rfl rfl ?_
  refine c_getr rfl rfl rfl g1 ?_
  refine w_iload_n rfl rfl ?_
  obtain ⟨g5, H⟩ := H
  refine c_ald rfl g2 g5 ?_
  obtain ⟨g6, H⟩ := H
  refine w_iadd rfl g6 ?_
  exact w_iret rfl rfl ⟨_, rfl, H⟩

/-- HoleDesk$Kinds.numberOf(III)I -/
theorem C178 {iv : List (Int × Int)} {L : Nat} {h0 : MH} {d : Nat} {s : SC} {a0 : Nat} {a1 : Int} {a2 : Int} {a3 : Int} {F : Int → SC → Prop} (H : wk iv L h0 d 178 3 [lr a0, li a1, li a2, li a3, li 3] [] s (qi F)) : ck iv L h0 d 178 [vr a0, vi a1, vi a2, vi a3] s (qi F) := by
  show wk iv L h0 d 178 0 [lr a0, li a1, li a2, li a3] [] s (qi F)
  refine w_iconst (n := 3) rfl rfl ?_
  refine w_istore rfl rfl ?_
  exact wp_ls (sl_s (sl_s (sl_s (sl_s (sl_s (sl_0)))))) H

/-- HoleDesk$Kinds.numberOf(III)I at 3 -/
theorem C178_3 {iv : List (Int × Int)} {L : Nat} {h0 : MH} {d : Nat} {s : SC} {l0 : Nat} {l1 : Int} {l2 : Int} {l3 : Int} {l4 : Int} {F : Int → SC → Prop} (H : (kl s l0 = 4) ∧ ((fI s l0 4 ≤ l4 → F (-1) s) ∧ (l4 < fI s l0 4 → (kl s (fR s l0 0) = 100) ∧ (0 ≤ l4 ∧ l4 < le s (fR s l0 0)) ∧ ((aI s (fR s l0 0) l4 ≠ l1 → (-2147483648 ≤ l4 + 1 ∧ l4 + 1 ≤ 2147483647) ∧ wk iv L h0 d 178 3 [lr l0, li l1, li l2, li l3, li (l4 + 1)] [] s (qi F)) ∧ (aI s (fR s l0 0) l4 = l1 → (kl s (fR s l0 1) = 100) ∧ (0 ≤ l4 ∧ l4 < le s (fR s l0 1)) ∧ ((aI s (fR s l0 1) l4 ≠ l2 → (-2147483648 ≤ l4 + 1 ∧ l4 + 1 ≤ 2147483647) ∧ wk iv L h0 d 178 3 [lr l0, li l1, li l2, li l3, li (l4 + 1)] [] s (qi F)) ∧ (aI s (fR s l0 1) l4 = l2 → (kl s (fR s l0 2) = 100) ∧ (0 ≤ l4 ∧ l4 < le s (fR s l0 2)) ∧ ((aI s (fR s l0 2) l4 ≠ l3 → (-2147483648 ≤ l4 + 1 ∧ l4 + 1 ≤ 2147483647) ∧ wk iv L h0 d 178 3 [lr l0, li l1, li l2, li l3, li (l4 + 1)] [] s (qi F)) ∧ (aI s (fR s l0 2) l4 = l3 → F l4 s))))))))) : wk iv L h0 d 178 3 [lr l0, li l1, li l2, li l3, li l4] [] s (qi F) := by
  refine w_iload rfl rfl ?_
  refine w_aload_n rfl rfl ?_
  obtain ⟨g1, H⟩ := H
  refine c_get rfl rfl rfl g1 ?_
  refine w_icmp_ge rfl (fun h => ?_) (fun h => ?_)
  · replace H := H.1 h
    refine w_iconst (n := (-1)) rfl rfl ?_
    exact w_iret rfl rfl ⟨_, rfl, H⟩
  · replace H := H.2 h
    refine w_aload_n rfl rfl ?_
    refine c_getr rfl rfl rfl g1 ?_
    refine w_iload rfl rfl ?_
    obtain ⟨g2, H⟩ := H
    obtain ⟨g3, H⟩ := H
    refine c_ald rfl g2 g3 ?_
    refine w_iload_n rfl rfl ?_
    refine w_icmp_ne rfl (fun h => ?_) (fun h => ?_)
    · replace H := H.1 h
      obtain ⟨g4, H⟩ := H
      refine w_iinc rfl rfl rfl g4 ?_
      refine w_goto rfl ?_
      exact wp_ls (sl_s (sl_s (sl_s (sl_s (sl_s (sl_0)))))) H
    · replace H := H.2 h
      refine w_aload_n rfl rfl ?_
      refine c_getr rfl rfl rfl g1 ?_
      refine w_iload rfl rfl ?_
      obtain ⟨g5, H⟩ := H
      obtain ⟨g6, H⟩ := H
      refine c_ald rfl g5 g6 ?_
      refine w_iload_n rfl rfl ?_
      refine w_icmp_ne rfl (fun h => ?_) (fun h => ?_)
      · replace H := H.1 h
        obtain ⟨g7, H⟩ := H
        refine w_iinc rfl rfl rfl g7 ?_
        refine w_goto rfl ?_
        exact wp_ls (sl_s (sl_s (sl_s (sl_s (sl_s (sl_0)))))) H
      · replace H := H.2 h
        refine w_aload_n rfl rfl ?_
        refine c_getr rfl rfl rfl g1 ?_
        refine w_iload rfl rfl ?_
        obtain ⟨g8, H⟩ := H
        obtain ⟨g9, H⟩ := H
        refine c_ald rfl g8 g9 ?_
        refine w_iload_n rfl rfl ?_
        refine w_icmp_ne rfl (fun h => ?_) (fun h => ?_)
        · replace H := H.1 h
          obtain ⟨g10, H⟩ := H
          refine w_iinc rfl rfl rfl g10 ?_
          refine w_goto rfl ?_
          exact wp_ls (sl_s (sl_s (sl_s (sl_s (sl_s (sl_0)))))) H
        · replace H := H.2 h
          refine w_iload rfl rfl ?_
          exact w_iret rfl rfl ⟨_, rfl, H⟩

/-- HoleDesk$Kinds.tell(III)I -/
theorem C179 {iv : List (Int × Int)} {L : Nat} {h0 : MH} {d : Nat} {s : SC} {a0 : Nat} {a1 : Int} {a2 : Int} {a3 : Int} {F : Int → SC → Prop} (H : (kl s a0 = 4) ∧ ck iv L h0 d 177 [vr a0, vi a2, vi a3] s (qi fun r3 s2 => (kl s2 a0 = 4) ∧ ck iv L h0 d 175 [vr a0, vi (fI s a0 4), vi a1, vi a2, vi a3, vi r3] s2 (qv fun s5 => (kl s5 a0 = 4) ∧ (-2147483648 ≤ (fI s5 a0 4) + 1 ∧ (fI s5 a0 4) + 1 ≤ 2147483647) ∧ F (fI s5 a0 4) (uI s5 a0 4 ((fI s5 a0 4) + 1))))) : ck iv L h0 (d + 1) 179 [vr a0, vi a1, vi a2, vi a3] s (qi F) := by
  show wk iv L h0 (d + 1) 179 0 [lr a0, li a1, li a2, li a3] [] s (qi F)
  refine w_aload_n rfl rfl ?_
  refine w_aload_n rfl rfl ?_
  obtain ⟨g1, H⟩ := H
  refine c_get rfl rfl rfl g1 ?_
  refine w_iload_n rfl rfl ?_
  refine w_iload_n rfl rfl ?_
  refine w_iload_n rfl rfl ?_
  refine w_aload_n rfl rfl ?_
  refine w_iload_n rfl rfl ?_
  refine w_iload_n rfl rfl ?_
  refine c_virt (p := a0) (as := [vi a2, vi a3]) (r := [vi a3, vi a2, vi a1, vi (fI s a0 4), vr a0]) rfl rfl rfl rfl rfl rfl g1 (wc_mono H (Nat.le_refl _) ?_)
  rintro _ s2 ⟨r3, rfl, H⟩
  show wk iv L h0 (d + 1) 179 14 [lr a0, li a1, li a2, li a3] [vi r3, vi a3, vi a2, vi a1, vi (fI s a0 4), vr a0] s2 (qi F)
  obtain ⟨g4, H⟩ := H
  refine c_virt (p := a0) (as := [vi (fI s a0 4), vi a1, vi a2, vi a3, vi r3]) (r := []) rfl rfl rfl rfl rfl rfl g4 (wc_mono H (Nat.le_refl _) ?_)
  rintro _ s5 ⟨rfl, H⟩
  show wk iv L h0 (d + 1) 179 17 [lr a0, li a1, li a2, li a3] [] s5 (qi F)
  refine w_aload_n rfl rfl ?_
  refine w_dup rfl rfl ?_
  obtain ⟨g6, H⟩ := H
  refine c_get rfl rfl rfl g6 ?_
  refine w_dup_x1 rfl rfl rfl ?_
  refine w_iconst (n := 1) rfl rfl ?_
  obtain ⟨g7, H⟩ := H
  refine w_iadd rfl g7 ?_
  refine c_put rfl rfl rfl rfl g6 ?_
  exact w_iret rfl rfl ⟨_, rfl, H⟩

/-- HoleDesk$Kinds.forgetMade()V -/
theorem C180 {iv : List (Int × Int)} {L : Nat} {h0 : MH} {d : Nat} {s : SC} {a0 : Nat} {F : SC → Prop} (H : (kl s a0 = 4) ∧ F (uI s a0 5 40)) : ck iv L h0 d 180 [vr a0] s (qv F) := by
  show wk iv L h0 d 180 0 [lr a0] [] s (qv F)
  refine w_aload_n rfl rfl ?_
  refine w_bipush (n := 40) rfl rfl rfl ?_
  obtain ⟨g1, H⟩ := H
  refine c_put rfl rfl rfl rfl g1 ?_
  exact w_ret rfl rfl ⟨rfl, H⟩

/-- HoleDesk$Kinds.make(III)I -/
theorem C181 {iv : List (Int × Int)} {L : Nat} {h0 : MH} {d : Nat} {s : SC} {a0 : Nat} {a1 : Int} {a2 : Int} {a3 : Int} {F : Int → SC → Prop} (H : (kl s a0 = 4) ∧ ck iv L h0 d 177 [vr a0, vi a2, vi a3] s (qi fun r3 s2 => ((40 < r3 → F 0 s2) ∧ (r3 ≤ 40 → (kl s2 a0 = 4) ∧ ((fI s2 a0 5 < 1440 → ck iv L h0 d 175 [vr a0, vi (fI s2 a0 5), vi a1, vi a2, vi a3, vi r3] s2 (qv fun s5 => (kl s5 a0 = 4) ∧ (-2147483648 ≤ (fI s5 a0 5) + 1 ∧ (fI s5 a0 5) + 1 ≤ 2147483647) ∧ F (fI s5 a0 5) (uI s5 a0 5 ((fI s5 a0 5) + 1)))) ∧ (1440 ≤ fI s2 a0 5 → F 0 s2)))))) : ck iv L h0 (d + 1) 181 [vr a0, vi a1, vi a2, vi a3] s (qi F) := by
  show wk iv L h0 (d + 1) 181 0 [lr a0, li a1, li a2, li a3] [] s (qi F)
  refine w_aload_n rfl rfl ?_
  refine w_iload_n rfl rfl ?_
  refine w_iload_n rfl rfl ?_
  obtain ⟨g1, H⟩ := H
  refine c_virt (p := a0) (as := [vi a2, vi a3]) (r := []) rfl rfl rfl rfl rfl rfl g1 (wc_mono H (Nat.le_refl _) ?_)
  rintro _ s2 ⟨r3, rfl, H⟩
  show wk iv L h0 (d + 1) 181 6 [lr a0, li a1, li a2, li a3] [vi r3] s2 (qi F)
  refine w_istore rfl rfl ?_
  refine w_iload rfl rfl ?_
  refine w_bipush (n := 40) rfl rfl rfl ?_
  refine w_icmp_gt rfl (fun h => ?_) (fun h => ?_)
  · replace H := H.1 h
    refine w_iconst (n := 0) rfl rfl ?_
    exact w_iret rfl rfl ⟨_, rfl, H⟩
  · replace H := H.2 h
    refine w_aload_n rfl rfl ?_
    obtain ⟨g4, H⟩ := H
    refine c_get rfl rfl rfl g4 ?_
    refine w_sipush (n := 1440) rfl rfl rfl ?_
    refine w_icmp_lt rfl (fun h => ?_) (fun h => ?_)
    · replace H := H.1 h
      refine w_aload_n rfl rfl ?_
      refine w_aload_n rfl rfl ?_
      refine c_get rfl rfl rfl g4 ?_
      refine w_iload_n rfl rfl ?_
      refine w_iload_n rfl rfl ?_
      refine w_iload_n rfl rfl ?_
      refine w_iload rfl rfl ?_
      refine c_virt (p := a0) (as := [vi (fI s2 a0 5), vi a1, vi a2, vi a3, vi r3]) (r := []) rfl rfl rfl rfl rfl rfl g4 (wc_mono H (Nat.le_refl _) ?_)
      rintro _ s5 ⟨rfl, H⟩
      show wk iv L h0 (d + 1) 181 40 [lr a0, li a1, li a2, li a3, li r3] [] s5 (qi F)
      refine w_aload_n rfl rfl ?_
      refine w_dup rfl rfl ?_
      obtain ⟨g6, H⟩ := H
      refine c_get rfl rfl rfl g6 ?_
      refine w_dup_x1 rfl rfl rfl ?_
      refine w_iconst (n := 1) rfl rfl ?_
      obtain ⟨g7, H⟩ := H
      refine w_iadd rfl g7 ?_
      refine c_put rfl rfl rfl rfl g6 ?_
      exact w_iret rfl rfl ⟨_, rfl, H⟩
    · replace H := H.2 h
      refine w_iconst (n := 0) rfl rfl ?_
      exact w_iret rfl rfl ⟨_, rfl, H⟩

/-- HoleDesk$Kinds.doMeet(II)Z -/
theorem C182 {iv : List (Int × Int)} {L : Nat} {h0 : MH} {d : Nat} {s : SC} {a0 : Nat} {a1 : Int} {a2 : Int} {F : Int → SC → Prop} (H : (kl s a0 = 4) ∧ ck iv L h0 d 183 [vr a0, vi a1, vi a2, vi 0] s (qi fun r3 s2 => (r3 = 0 ∨ r3 = 1) ∧ F r3 s2)) : ck iv L h0 (d + 1) 182 [vr a0, vi a1, vi a2] s (qi F) := by
  show wk iv L h0 (d + 1) 182 0 [lr a0, li a1, li a2] [] s (qi F)
  refine w_aload_n rfl rfl ?_
  refine w_iload_n rfl rfl ?_
  refine w_iload_n rfl rfl ?_
  refine w_iconst (n := 0) rfl rfl ?_
  obtain ⟨g1, H⟩ := H
  refine c_virt (p := a0) (as := [vi a1, vi a2, vi 0]) (r := []) rfl rfl rfl rfl rfl rfl g1 (wc_mono H (Nat.le_refl _) ?_)
  rintro _ s2 ⟨r3, rfl, H⟩
  show wk iv L h0 (d + 1) 182 7 [lr a0, li a1, li a2] [vi r3] s2 (qi F)
  obtain ⟨g4, H⟩ := H
  exact w_iretz rfl rfl g4 ⟨_, rfl, H⟩
end
section
/-! What the methods of the desk come to. Printed by wip/gen2/gens.py. -/
/-- HoleDesk$Kinds.meeting(III)Z -/
theorem C183 {iv : List (Int × Int)} {L : Nat} {h0 : MH} {d : Nat} {s : SC} {a0 : Nat} {a1 : Int} {a2 : Int} {a3 : Int} {F : Int → SC → Prop} (H : (kl s a0 = 4) ∧ (kl s (fR s a0 0) = 100) ∧ (0 ≤ a1 ∧ a1 < le s (fR s a0 0)) ∧ ((aI s (fR s a0 0) a1 = 0 → F 1 s) ∧ (aI s (fR s a0 0) a1 ≠ 0 → (0 ≤ a2 ∧ a2 < le s (fR s a0 0)) ∧ ((aI s (fR s a0 0) a2 = 0 → F 1 s) ∧ (aI s (fR s a0 0) a2 ≠ 0 → ((a3 ≤ 40 → ((aI s (fR s a0 0) a1 = aI s (fR s a0 0) a2 → ((aI s (fR s a0 0) a1 < 3 → F 1 s) ∧ (3 ≤ aI s (fR s a0 0) a1 → (kl s (fR s a0 1) = 100) ∧ (0 ≤ a1 ∧ a1 < le s (fR s a0 1)) ∧ (0 ≤ a2 ∧ a2 < le s (fR s a0 1)) ∧ (-2147483648 ≤ a3 + 1 ∧ a3 + 1 ≤ 2147483647) ∧ ck iv L h0 d 183 [vr a0, vi (aI s (fR s a0 1) a1), vi (aI s (fR s a0 1) a2), vi (a3 + 1)] s (qi fun r10 s9 => ((r10 = 0 → F 0 s9) ∧ (r10 ≠ 0 → (kl s9 a0 = 4) ∧ (kl s9 (fR s9 a0 2) = 100) ∧ (0 ≤ a1 ∧ a1 < le s9 (fR s9 a0 2)) ∧ (0 ≤ a2 ∧ a2 < le s9 (fR s9 a0 2)) ∧ ck iv L h0 d 183 [vr a0, vi (aI s9 (fR s9 a0 2) a1), vi (aI s9 (fR s9 a0 2) a2), vi (a3 + 1)] s9 (qi fun r16 s15 => ((r16 = 0 → F 0 s15) ∧ (r16 ≠ 0 → F 1 s15))))))))) ∧ (aI s (fR s a0 0) a1 ≠ aI s (fR s a0 0) a2 → F 0 s))) ∧ (40 < a3 → F 1 s))))))) : ck iv L h0 (d + 1) 183 [vr a0, vi a1, vi a2, vi a3] s (qi F) := by
  show wk iv L h0 (d + 1) 183 0 [lr a0, li a1, li a2, li a3] [] s (qi F)
  refine w_aload_n rfl rfl ?_
  obtain ⟨g1, H⟩ := H
  refine c_getr rfl rfl rfl g1 ?_
  refine w_iload_n rfl rfl ?_
  obtain ⟨g2, H⟩ := H
  obtain ⟨g3, H⟩ := H
  refine c_ald rfl g2 g3 ?_
  refine w_if_eq rfl (fun h => ?_) (fun h => ?_)
  · replace H := H.1 h
    refine w_iconst (n := 1) rfl rfl ?_
    exact w_iretz rfl rfl (by decide) ⟨_, rfl, H⟩
  · replace H := H.2 h
    refine w_aload_n rfl rfl ?_
    refine c_getr rfl rfl rfl g1 ?_
    refine w_iload_n rfl rfl ?_
    obtain ⟨g4, H⟩ := H
    refine c_ald rfl g2 g4 ?_
    refine w_if_eq rfl (fun h => ?_) (fun h => ?_)
    · replace H := H.1 h
      refine w_iconst (n := 1) rfl rfl ?_
      exact w_iretz rfl rfl (by decide) ⟨_, rfl, H⟩
    · replace H := H.2 h
      refine w_iload_n rfl rfl ?_
      refine w_bipush (n := 40) rfl rfl rfl ?_
      refine w_icmp_le rfl (fun h => ?_) (fun h => ?_)
      · replace H := H.1 h
        refine w_aload_n rfl rfl ?_
        refine c_getr rfl rfl rfl g1 ?_
        refine w_iload_n rfl rfl ?_
        refine c_ald rfl g2 g3 ?_
        refine w_aload_n rfl rfl ?_
        refine c_getr rfl rfl rfl g1 ?_
        refine w_iload_n rfl rfl ?_
        refine c_ald rfl g2 g4 ?_
        refine w_icmp_eq rfl (fun h => ?_) (fun h => ?_)
        · replace H := H.1 h
          refine w_aload_n rfl rfl ?_
          refine c_getr rfl rfl rfl g1 ?_
          refine w_iload_n rfl rfl ?_
          refine c_ald rfl g2 g3 ?_
          refine w_iconst (n := 3) rfl rfl ?_
          refine w_icmp_lt rfl (fun h => ?_) (fun h => ?_)
          · replace H := H.1 h
            refine w_iconst (n := 1) rfl rfl ?_
            refine w_goto rfl ?_
            exact w_iretz rfl rfl (by decide) ⟨_, rfl, H⟩
          · replace H := H.2 h
            refine w_aload_n rfl rfl ?_
            refine w_aload_n rfl rfl ?_
            refine c_getr rfl rfl rfl g1 ?_
            refine w_iload_n rfl rfl ?_
            obtain ⟨g5, H⟩ := H
            obtain ⟨g6, H⟩ := H
            refine c_ald rfl g5 g6 ?_
            refine w_aload_n rfl rfl ?_
            refine c_getr rfl rfl rfl g1 ?_
            refine w_iload_n rfl rfl ?_
            obtain ⟨g7, H⟩ := H
            refine c_ald rfl g5 g7 ?_
            refine w_iload_n rfl rfl ?_
            refine w_iconst (n := 1) rfl rfl ?_
            obtain ⟨g8, H⟩ := H
            refine w_iadd rfl g8 ?_
            refine c_virt (p := a0) (as := [vi (aI s (fR s a0 1) a1), vi (aI s (fR s a0 1) a2), vi (a3 + 1)]) (r := []) rfl rfl rfl rfl rfl rfl g1 (wc_mono H (Nat.le_refl _) ?_)
            rintro _ s9 ⟨r10, rfl, H⟩
            show wk iv L h0 (d + 1) 183 72 [lr a0, li a1, li a2, li a3] [vi r10] s9 (qi F)
            refine w_if_eq rfl (fun h => ?_) (fun h => ?_)
            · replace H := H.1 h
              refine w_iconst (n := 0) rfl rfl ?_
              exact w_iretz rfl rfl (by decide) ⟨_, rfl, H⟩
            · replace H := H.2 h
              refine w_aload_n rfl rfl ?_
              refine w_aload_n rfl rfl ?_
              obtain ⟨g11, H⟩ := H
              refine c_getr rfl rfl rfl g11 ?_
              refine w_iload_n rfl rfl ?_
              obtain ⟨g12, H⟩ := H
              obtain ⟨g13, H⟩ := H
              refine c_ald rfl g12 g13 ?_
              refine w_aload_n rfl rfl ?_
              refine c_getr rfl rfl rfl g11 ?_
              refine w_iload_n rfl rfl ?_
              obtain ⟨g14, H⟩ := H
              refine c_ald rfl g12 g14 ?_
              refine w_iload_n rfl rfl ?_
              refine w_iconst (n := 1) rfl rfl ?_
              refine w_iadd rfl g8 ?_
              refine c_virt (p := a0) (as := [vi (aI s9 (fR s9 a0 2) a1), vi (aI s9 (fR s9 a0 2) a2), vi (a3 + 1)]) (r := []) rfl rfl rfl rfl rfl rfl g11 (wc_mono H (Nat.le_refl _) ?_)
              rintro _ s15 ⟨r16, rfl, H⟩
              show wk iv L h0 (d + 1) 183 94 [lr a0, li a1, li a2, li a3] [vi r16] s15 (qi F)
              refine w_if_eq rfl (fun h => ?_) (fun h => ?_)
              · replace H := H.1 h
                refine w_iconst (n := 0) rfl rfl ?_
                exact w_iretz rfl rfl (by decide) ⟨_, rfl, H⟩
              · replace H := H.2 h
                refine w_iconst (n := 1) rfl rfl ?_
                refine w_goto rfl ?_
                exact w_iretz rfl rfl (by decide) ⟨_, rfl, H⟩
        · replace H := H.2 h
          refine w_iconst (n := 0) rfl rfl ?_
          exact w_iretz rfl rfl (by decide) ⟨_, rfl, H⟩
      · replace H := H.2 h
        refine w_iconst (n := 1) rfl rfl ?_
        exact w_iretz rfl rfl (by decide) ⟨_, rfl, H⟩

/-- HoleDesk$Kinds.together(III)I -/
theorem C184 {iv : List (Int × Int)} {L : Nat} {h0 : MH} {d : Nat} {s : SC} {a0 : Nat} {a1 : Int} {a2 : Int} {a3 : Int} {F : Int → SC → Prop} (H : (kl s a0 = 4) ∧ (kl s (fR s a0 0) = 100) ∧ (0 ≤ a1 ∧ a1 < le s (fR s a0 0)) ∧ ((aI s (fR s a0 0) a1 = 0 → F a2 s) ∧ (aI s (fR s a0 0) a1 ≠ 0 → ((a3 ≤ 40 → (0 ≤ a2 ∧ a2 < le s (fR s a0 0)) ∧ ((aI s (fR s a0 0) a2 = 0 → F a1 s) ∧ (aI s (fR s a0 0) a2 ≠ 0 → ((3 ≤ aI s (fR s a0 0) a1 → (kl s (fR s a0 1) = 100) ∧ (0 ≤ a1 ∧ a1 < le s (fR s a0 1)) ∧ (0 ≤ a2 ∧ a2 < le s (fR s a0 1)) ∧ (-2147483648 ≤ a3 + 1 ∧ a3 + 1 ≤ 2147483647) ∧ ck iv L h0 d 184 [vr a0, vi (aI s (fR s a0 1) a1), vi (aI s (fR s a0 1) a2), vi (a3 + 1)] s (qi fun r10 s9 => (kl s9 a0 = 4) ∧ (kl s9 (fR s9 a0 2) = 100) ∧ (0 ≤ a1 ∧ a1 < le s9 (fR s9 a0 2)) ∧ (0 ≤ a2 ∧ a2 < le s9 (fR s9 a0 2)) ∧ ck iv L h0 d 184 [vr a0, vi (aI s9 (fR s9 a0 2) a1), vi (aI s9 (fR s9 a0 2) a2), vi (a3 + 1)] s9 (qi fun r16 s15 => (kl s15 a0 = 4) ∧ (kl s15 (fR s15 a0 0) = 100) ∧ (0 ≤ a1 ∧ a1 < le s15 (fR s15 a0 0)) ∧ ck iv L h0 d 181 [vr a0, vi (aI s15 (fR s15 a0 0) a1), vi r10, vi r16] s15 (qi fun r21 s20 => F r21 s20)))) ∧ (aI s (fR s a0 0) a1 < 3 → F a1 s))))) ∧ (40 < a3 → F a2 s))))) : ck iv L h0 (d + 1) 184 [vr a0, vi a1, vi a2, vi a3] s (qi F) := by
  show wk iv L h0 (d + 1) 184 0 [lr a0, li a1, li a2, li a3] [] s (qi F)
  refine w_aload_n rfl rfl ?_
  obtain ⟨g1, H⟩ := H
  refine c_getr rfl rfl rfl g1 ?_
  refine w_iload_n rfl rfl ?_
  obtain ⟨g2, H⟩ := H
  obtain ⟨g3, H⟩ := H
  refine c_ald rfl g2 g3 ?_
  refine w_if_eq rfl (fun h => ?_) (fun h => ?_)
  · replace H := H.1 h
    refine w_iload_n rfl rfl ?_
    exact w_iret rfl rfl ⟨_, rfl, H⟩
  · replace H := H.2 h
    refine w_iload_n rfl rfl ?_
    refine w_bipush (n := 40) rfl rfl rfl ?_
    refine w_icmp_le rfl (fun h => ?_) (fun h => ?_)
    · replace H := H.1 h
      refine w_aload_n rfl rfl ?_
      refine c_getr rfl rfl rfl g1 ?_
      refine w_iload_n rfl rfl ?_
      obtain ⟨g4, H⟩ := H
      refine c_ald rfl g2 g4 ?_
      refine w_if_eq rfl (fun h => ?_) (fun h => ?_)
      · replace H := H.1 h
        refine w_iload_n rfl rfl ?_
        exact w_iret rfl rfl ⟨_, rfl, H⟩
      · replace H := H.2 h
        refine w_aload_n rfl rfl ?_
        refine c_getr rfl rfl rfl g1 ?_
        refine w_iload_n rfl rfl ?_
        refine c_ald rfl g2 g3 ?_
        refine w_iconst (n := 3) rfl rfl ?_
        refine w_icmp_ge rfl (fun h => ?_) (fun h => ?_)
        · replace H := H.1 h
          refine w_aload_n rfl rfl ?_
          refine w_aload_n rfl rfl ?_
          refine c_getr rfl rfl rfl g1 ?_
          refine w_iload_n rfl rfl ?_
          obtain ⟨g5, H⟩ := H
          obtain ⟨g6, H⟩ := H
          refine c_ald rfl g5 g6 ?_
          refine w_aload_n rfl rfl ?_
          refine c_getr rfl rfl rfl g1 ?_
          refine w_iload_n rfl rfl ?_
          obtain ⟨g7, H⟩ := H
          refine c_ald rfl g5 g7 ?_
          refine w_iload_n rfl rfl ?_
          refine w_iconst (n := 1) rfl rfl ?_
          obtain ⟨g8, H⟩ := H
          refine w_iadd rfl g8 ?_
          refine c_virt (p := a0) (as := [vi (aI s (fR s a0 1) a1), vi (aI s (fR s a0 1) a2), vi (a3 + 1)]) (r := []) rfl rfl rfl rfl rfl rfl g1 (wc_mono H (Nat.le_refl _) ?_)
          rintro _ s9 ⟨r10, rfl, H⟩
          show wk iv L h0 (d + 1) 184 57 [lr a0, li a1, li a2, li a3] [vi r10] s9 (qi F)
          refine w_istore rfl rfl ?_
          refine w_aload_n rfl rfl ?_
          refine w_aload_n rfl rfl ?_
          obtain ⟨g11, H⟩ := H
          refine c_getr rfl rfl rfl g11 ?_
          refine w_iload_n rfl rfl ?_
          obtain ⟨g12, H⟩ := H
          obtain ⟨g13, H⟩ := H
          refine c_ald rfl g12 g13 ?_
          refine w_aload_n rfl rfl ?_
          refine c_getr rfl rfl rfl g11 ?_
          refine w_iload_n rfl rfl ?_
          obtain ⟨g14, H⟩ := H
          refine c_ald rfl g12 g14 ?_
          refine w_iload_n rfl rfl ?_
          refine w_iconst (n := 1) rfl rfl ?_
          refine w_iadd rfl g8 ?_
          refine c_virt (p := a0) (as := [vi (aI s9 (fR s9 a0 2) a1), vi (aI s9 (fR s9 a0 2) a2), vi (a3 + 1)]) (r := []) rfl rfl rfl rfl rfl rfl g11 (wc_mono H (Nat.le_refl _) ?_)
          rintro _ s15 ⟨r16, rfl, H⟩
          show wk iv L h0 (d + 1) 184 78 [lr a0, li a1, li a2, li a3, li r10] [vi r16] s15 (qi F)
          refine w_istore rfl rfl ?_
          refine w_aload_n rfl rfl ?_
          refine w_aload_n rfl rfl ?_
          obtain ⟨g17, H⟩ := H
          refine c_getr rfl rfl rfl g17 ?_
          refine w_iload_n rfl rfl ?_
          obtain ⟨g18, H⟩ := H
          obtain ⟨g19, H⟩ := H
          refine c_ald rfl g18 g19 ?_
          refine w_iload rfl rfl ?_
          refine w_iload rfl rfl ?_
          refine c_virt (p := a0) (as := [vi (aI s15 (fR s15 a0 0) a1), vi r10, vi r16]) (r := []) rfl rfl rfl rfl rfl rfl g17 (wc_mono H (Nat.le_refl _) ?_)
          rintro _ s20 ⟨r21, rfl, H⟩
          show wk iv L h0 (d + 1) 184 94 [lr a0, li a1, li a2, li a3, li r10, li r16] [vi r21] s20 (qi F)
          exact w_iret rfl rfl ⟨_, rfl, H⟩
        · replace H := H.2 h
          refine w_iload_n rfl rfl ?_
          exact w_iret rfl rfl ⟨_, rfl, H⟩
    · replace H := H.2 h
      refine w_iload_n rfl rfl ?_
      exact w_iret rfl rfl ⟨_, rfl, H⟩

/-- HoleDesk$Kinds.signOf(II)I -/
theorem C185 {iv : List (Int × Int)} {L : Nat} {h0 : MH} {d : Nat} {s : SC} {a0 : Nat} {a1 : Int} {a2 : Int} {F : Int → SC → Prop} (H : wk iv L h0 d 185 8 [lr a0, ln, ln, li a1, li a2, li 0] [] s (qi F)) : ck iv L h0 d 185 [vr a0, vi a1, vi a2] s (qi F) := by
  show wk iv L h0 d 185 0 [lr a0, li a1, li a2] [] s (qi F)
  refine w_iload_n rfl rfl ?_
  refine w_istore_n rfl rfl ?_
  refine w_iload_n rfl rfl ?_
  refine w_istore rfl rfl ?_
  refine w_iconst (n := 0) rfl rfl ?_
  refine w_istore rfl rfl ?_
  exact wp_ls (sl_s (sl_n (sl_n (sl_s (sl_s (sl_s (sl_0))))))) H

/-- HoleDesk$Kinds.signOf(II)I at 8 -/
theorem C185_8 {iv : List (Int × Int)} {L : Nat} {h0 : MH} {d : Nat} {s : SC} {l0 : Nat} {l3 : Int} {l4 : Int} {l5 : Int} {F : Int → SC → Prop} (H : ((40 < l5 → F (-9) s) ∧ (l5 ≤ 40 → (kl s l0 = 4) ∧ (kl s (fR s l0 3) = 100) ∧ (0 ≤ l3 ∧ l3 < le s (fR s l0 3)) ∧ ((aI s (fR s l0 3) l3 ≤ l4 → F (-9) s) ∧ (l4 < aI s (fR s l0 3) l3 → ((l4 ≠ 0 → (-2147483648 ≤ l4 - 1 ∧ l4 - 1 ≤ 2147483647) ∧ (kl s (fR s l0 1) = 100) ∧ (0 ≤ l3 ∧ l3 < le s (fR s l0 1)) ∧ (0 ≤ aI s (fR s l0 1) l3 ∧ aI s (fR s l0 1) l3 < le s (fR s l0 3)) ∧ ((aI s (fR s l0 3) (aI s (fR s l0 1) l3) ≤ l4 - 1 → (-2147483648 ≤ (l4 - 1) - (aI s (fR s l0 3) (aI s (fR s l0 1) l3)) ∧ (l4 - 1) - (aI s (fR s l0 3) (aI s (fR s l0 1) l3)) ≤ 2147483647) ∧ (kl s (fR s l0 2) = 100) ∧ (0 ≤ l3 ∧ l3 < le s (fR s l0 2)) ∧ (-2147483648 ≤ l5 + 1 ∧ l5 + 1 ≤ 2147483647) ∧ wk iv L h0 d 185 8 [lr l0, ln, ln, li (aI s (fR s l0 2) l3), li ((l4 - 1) - (aI s (fR s l0 3) (aI s (fR s l0 1) l3))), li (l5 + 1)] [] s (qi F)) ∧ (l4 - 1 < aI s (fR s l0 3) (aI s (fR s l0 1) l3) → (-2147483648 ≤ l5 + 1 ∧ l5 + 1 ≤ 2147483647) ∧ wk iv L h0 d 185 8 [lr l0, ln, ln, li (aI s (fR s l0 1) l3), li (l4 - 1), li (l5 + 1)] [] s (qi F)))) ∧ (l4 = 0 → (kl s (fR s l0 0) = 100) ∧ (0 ≤ l3 ∧ l3 < le s (fR s l0 0)) ∧ (8 ≤ 8 ∧ 8 < 8 + NS0) ∧ (0 ≤ aI s (fR s l0 0) l3 ∧ aI s (fR s l0 0) l3 < slen 8) ∧ F (scat 8 (aI s (fR s l0 0) l3)) s))))))) : wk iv L h0 d 185 8 [lr l0, ln, ln, li l3, li l4, li l5] [] s (qi F) := by
  refine w_iload rfl rfl ?_
  refine w_bipush (n := 40) rfl rfl rfl ?_
  refine w_icmp_gt rfl (fun h => ?_) (fun h => ?_)
  · replace H := H.1 h
    refine w_bipush (n := (-9)) rfl rfl rfl ?_
    exact w_iret rfl rfl ⟨_, rfl, H⟩
  · replace H := H.2 h
    refine w_iload rfl rfl ?_
    refine w_aload_n rfl rfl ?_
    obtain ⟨g1, H⟩ := H
    refine c_getr rfl rfl rfl g1 ?_
    refine w_iload_n rfl rfl ?_
    obtain ⟨g2, H⟩ := H
    obtain ⟨g3, H⟩ := H
    refine c_ald rfl g2 g3 ?_
    refine w_icmp_ge rfl (fun h => ?_) (fun h => ?_)
    · replace H := H.1 h
      refine w_bipush (n := (-9)) rfl rfl rfl ?_
      exact w_iret rfl rfl ⟨_, rfl, H⟩
    · replace H := H.2 h
      refine w_iload rfl rfl ?_
      refine w_if_ne rfl (fun h => ?_) (fun h => ?_)
      · replace H := H.1 h
        obtain ⟨g4, H⟩ := H
        refine w_iinc rfl rfl rfl g4 ?_
        show wk iv L h0 d 185 46 [lr l0, ln, ln, li l3, li (l4 - 1), li l5] [] s (qi F)
        refine w_aload_n rfl rfl ?_
        refine c_getr rfl rfl rfl g1 ?_
        refine w_aload_n rfl rfl ?_
        refine c_getr rfl rfl rfl g1 ?_
        refine w_iload_n rfl rfl ?_
        obtain ⟨g5, H⟩ := H
        obtain ⟨g6, H⟩ := H
        refine c_ald rfl g5 g6 ?_
        obtain ⟨g7, H⟩ := H
        refine c_ald rfl g2 g7 ?_
        refine w_istore rfl rfl ?_
        refine w_iload rfl rfl ?_
        refine w_iload rfl rfl ?_
        refine w_icmp_ge rfl (fun h => ?_) (fun h => ?_)
        · replace H := H.1 h
          refine w_iload rfl rfl ?_
          refine w_iload rfl rfl ?_
          obtain ⟨g8, H⟩ := H
          refine w_isub rfl g8 ?_
          refine w_istore rfl rfl ?_
          refine w_aload_n rfl rfl ?_
          refine c_getr rfl rfl rfl g1 ?_
          refine w_iload_n rfl rfl ?_
          obtain ⟨g9, H⟩ := H
          obtain ⟨g10, H⟩ := H
          refine c_ald rfl g9 g10 ?_
          refine w_istore_n rfl rfl ?_
          obtain ⟨g11, H⟩ := H
          refine w_iinc rfl rfl rfl g11 ?_
          refine w_goto rfl ?_
          exact wp_ls (sl_s (sl_n (sl_n (sl_s (sl_s (sl_s (sl_0))))))) H
        · replace H := H.2 h
          refine w_aload_n rfl rfl ?_
          refine c_getr rfl rfl rfl g1 ?_
          refine w_iload_n rfl rfl ?_
          refine c_ald rfl g5 g6 ?_
          refine w_istore_n rfl rfl ?_
          refine w_goto rfl ?_
          obtain ⟨g12, H⟩ := H
          refine w_iinc rfl rfl rfl g12 ?_
          refine w_goto rfl ?_
          exact wp_ls (sl_s (sl_n (sl_n (sl_s (sl_s (sl_s (sl_0))))))) H
      · replace H := H.2 h
        refine w_ldcs (x := 8) rfl rfl (by decide) ?_
        refine w_aload_n rfl rfl ?_
        refine c_getr rfl rfl rfl g1 ?_
        refine w_iload_n rfl rfl ?_
        obtain ⟨g13, H⟩ := H
        obtain ⟨g14, H⟩ := H
        refine c_ald rfl g13 g14 ?_
        obtain ⟨g15, H⟩ := H
        obtain ⟨g16, H⟩ := H
        refine w_sat rfl g15 g16 rfl ?_
        exact w_iret rfl rfl ⟨_, rfl, H⟩

/-- HoleDesk$Node.<init>(IIII)V -/
theorem C186 {iv : List (Int × Int)} {L : Nat} {h0 : MH} {d : Nat} {s : SC} {a0 : Nat} {a1 : Int} {a2 : Int} {a3 : Int} {a4 : Int} {F : SC → Prop} (H : (a0 ≠ 2) ∧ (kl s a0 = 5) ∧ (0 ≤ a2 ∧ a2 < 16) ∧ (0 ≤ pO a2 ∧ pO a2 ≤ 67108864) ∧ (353 ≤ nxt s) ∧ (kl (nA s 3 (pO a2)) a0 = 5) ∧ F (uR (nA (uI (uI (uI (uI (uR (uI (uI (uI (uI (uI (uI (uR s a0 5 2) a0 6 0) a0 7 0) a0 8 (-1)) a0 9 0) a0 10 0) a0 11 (-9)) a0 12 2) a0 0 a1) a0 1 a2) a0 4 a3) a0 2 a4) 3 (pO a2)) a0 3 (nxt s))) : ck iv L h0 d 186 [vr a0, vi a1, vi a2, vi a3, vi a4] s (qv F) := by
  show wk iv L h0 d 186 0 [lr a0, li a1, li a2, li a3, li a4] [] s (qv F)
  refine w_aload_n rfl rfl ?_
  obtain ⟨g1, H⟩ := H
  refine c_oinit rfl rfl g1 ?_
  refine w_aload_n rfl rfl ?_
  refine w_null rfl ?_
  obtain ⟨g2, H⟩ := H
  refine c_putr rfl rfl rfl rfl g2 ?_
  refine w_aload_n rfl rfl ?_
  refine w_iconst (n := 0) rfl rfl ?_
  refine c_put rfl rfl rfl rfl g2 ?_
  refine w_aload_n rfl rfl ?_
  refine w_iconst (n := 0) rfl rfl ?_
  refine c_put rfl rfl rfl rfl g2 ?_
  refine w_aload_n rfl rfl ?_
  refine w_iconst (n := (-1)) rfl rfl ?_
  refine c_put rfl rfl rfl rfl g2 ?_
  refine w_aload_n rfl rfl ?_
  refine w_iconst (n := 0) rfl rfl ?_
  refine c_put rfl rfl rfl rfl g2 ?_
  refine w_aload_n rfl rfl ?_
  refine w_iconst (n := 0) rfl rfl ?_
  refine c_put rfl rfl rfl rfl g2 ?_
  refine w_aload_n rfl rfl ?_
  refine w_bipush (n := (-9)) rfl rfl rfl ?_
  refine c_put rfl rfl rfl rfl g2 ?_
  refine w_aload_n rfl rfl ?_
  refine w_null rfl ?_
  refine c_putr rfl rfl rfl rfl g2 ?_
  refine w_aload_n rfl rfl ?_
  refine w_iload_n rfl rfl ?_
  refine c_put rfl rfl rfl rfl g2 ?_
  refine w_aload_n rfl rfl ?_
  refine w_iload_n rfl rfl ?_
  refine c_put rfl rfl rfl rfl g2 ?_
  refine w_aload_n rfl rfl ?_
  refine w_iload_n rfl rfl ?_
  refine c_put rfl rfl rfl rfl g2 ?_
  refine w_aload_n rfl rfl ?_
  refine w_iload rfl rfl ?_
  refine c_put rfl rfl rfl rfl g2 ?_
  refine w_aload_n rfl rfl ?_
  refine w_getst rfl (by decide) ?_
  refine w_iload_n rfl rfl ?_
  obtain ⟨g3, H⟩ := H
  refine w_pald rfl g3 ?_
  obtain ⟨g4, H⟩ := H
  obtain ⟨g5, H⟩ := H
  refine c_anewa rfl rfl g4 g5 ?_
  show wk iv L h0 d 186 75 [lr a0, li a1, li a2, li a3, li a4] [vr (nxt s), vr a0] (nA (uI (uI (uI (uI (uR (uI (uI (uI (uI (uI (uI (uR s a0 5 2) a0 6 0) a0 7 0) a0 8 (-1)) a0 9 0) a0 10 0) a0 11 (-9)) a0 12 2) a0 0 a1) a0 1 a2) a0 4 a3) a0 2 a4) 3 (pO a2)) (qv F)
  obtain ⟨g6, H⟩ := H
  refine c_putr rfl rfl rfl rfl g6 ?_
  exact w_ret rfl rfl ⟨rfl, H⟩

/-- HoleDesk$Node.hasPart(I)Z -/
theorem C187 {iv : List (Int × Int)} {L : Nat} {h0 : MH} {d : Nat} {s : SC} {a0 : Nat} {a1 : Int} {F : Int → SC → Prop} (H : ((a1 < 0 → F 0 s) ∧ (0 ≤ a1 → (kl s a0 = 5) ∧ (100 ≤ kl s (fR s a0 3) ∧ kl s (fR s a0 3) < 108) ∧ ((le s (fR s a0 3) ≤ a1 → F 0 s) ∧ (a1 < le s (fR s a0 3) → F 1 s))))) : ck iv L h0 d 187 [vr a0, vi a1] s (qi F) := by
  show wk iv L h0 d 187 0 [lr a0, li a1] [] s (qi F)
  refine w_iload_n rfl rfl ?_
  refine w_if_lt rfl (fun h => ?_) (fun h => ?_)
  · replace H := H.1 h
    refine w_iconst (n := 0) rfl rfl ?_
    exact w_iretz rfl rfl (by decide) ⟨_, rfl, H⟩
  · replace H := H.2 h
    refine w_iload_n rfl rfl ?_
    refine w_aload_n rfl rfl ?_
    obtain ⟨g1, H⟩ := H
    refine c_getr rfl rfl rfl g1 ?_
    obtain ⟨g2, H⟩ := H
    refine c_len rfl g2 ?_
    refine w_icmp_ge rfl (fun h => ?_) (fun h => ?_)
    · replace H := H.1 h
      refine w_iconst (n := 0) rfl rfl ?_
      exact w_iretz rfl rfl (by decide) ⟨_, rfl, H⟩
    · replace H := H.2 h
      refine w_iconst (n := 1) rfl rfl ?_
      refine w_goto rfl ?_
      exact w_iretz rfl rfl (by decide) ⟨_, rfl, H⟩

/-- HoleDesk$Node.hang(ILHoleDesk$Node;)V -/
theorem C188 {iv : List (Int × Int)} {L : Nat} {h0 : MH} {d : Nat} {s : SC} {a0 : Nat} {a1 : Int} {a2 : Nat} {F : SC → Prop} (H : (kl s a0 = 5) ∧ (kl s (fR s a0 3) = 103) ∧ (0 ≤ a1 ∧ a1 < le s (fR s a0 3)) ∧ (a2 = 2 ∨ kl s a2 = 5) ∧ (kl s a2 = 5) ∧ F (uI (uR (uB s (fR s a0 3) a1 a2) a2 5 a0) a2 6 a1)) : ck iv L h0 d 188 [vr a0, vi a1, vr a2] s (qv F) := by
  show wk iv L h0 d 188 0 [lr a0, li a1, lr a2] [] s (qv F)
  refine w_aload_n rfl rfl ?_
  obtain ⟨g1, H⟩ := H
  refine c_getr rfl rfl rfl g1 ?_
  refine w_iload_n rfl rfl ?_
  refine w_aload_n rfl rfl ?_
  obtain ⟨g2, H⟩ := H
  obtain ⟨g3, H⟩ := H
  obtain ⟨g4, H⟩ := H
  refine c_aast rfl rfl g2 g3 (by rcases g4 with e | e; exact Or.inl e; exact Or.inr ⟨e, by decide⟩) ?_
  refine w_aload_n rfl rfl ?_
  refine w_aload_n rfl rfl ?_
  obtain ⟨g5, H⟩ := H
  refine c_putr rfl rfl rfl rfl g5 ?_
  refine w_aload_n rfl rfl ?_
  refine w_iload_n rfl rfl ?_
  refine c_put rfl rfl rfl rfl g5 ?_
  exact w_ret rfl rfl ⟨rfl, H⟩

/-- HoleDesk$Node.madeForOthers()I -/
theorem C189 {iv : List (Int × Int)} {L : Nat} {h0 : MH} {d : Nat} {s : SC} {a0 : Nat} {F : Int → SC → Prop} (H : (kl s a0 = 5) ∧ ((fI s a0 10 ≠ 0 → F 0 s) ∧ (fI s a0 10 = 0 → F (fI s a0 9) s))) : ck iv L h0 d 189 [vr a0] s (qi F) := by
  show wk iv L h0 d 189 0 [lr a0] [] s (qi F)
  refine w_aload_n rfl rfl ?_
  obtain ⟨g1, H⟩ := H
  refine c_get rfl rfl rfl g1 ?_
  refine w_if_ne rfl (fun h => ?_) (fun h => ?_)
  · replace H := H.1 h
    refine w_iconst (n := 0) rfl rfl ?_
    exact w_iret rfl rfl ⟨_, rfl, H⟩
  · replace H := H.2 h
    refine w_aload_n rfl rfl ?_
    refine c_get rfl rfl rfl g1 ?_
    refine w_goto rfl ?_
    exact w_iret rfl rfl ⟨_, rfl, H⟩

/-- HoleDesk$Node.latestFiller()LHoleDesk$Node; -/
theorem C190 {iv : List (Int × Int)} {L : Nat} {h0 : MH} {d : Nat} {s : SC} {a0 : Nat} {F : Nat → SC → Prop} (H : (kl s a0 = 5) ∧ wk iv L h0 d 190 5 [ln, lr (fR s a0 12)] [] s (qa F)) : ck iv L h0 d 190 [vr a0] s (qa F) := by
  show wk iv L h0 d 190 0 [lr a0] [] s (qa F)
  refine w_aload_n rfl rfl ?_
  obtain ⟨g1, H⟩ := H
  refine c_getr rfl rfl rfl g1 ?_
  refine w_astore_n rfl rfl ?_
  exact wp_ls (sl_n (sl_s (sl_0))) H

/-- HoleDesk$Node.latestFiller()LHoleDesk$Node; at 5 -/
theorem C190_5 {iv : List (Int × Int)} {L : Nat} {h0 : MH} {d : Nat} {s : SC} {l1 : Nat} {F : Nat → SC → Prop} (H : ((l1 = 2 → F l1 s) ∧ (l1 ≠ 2 → (kl s l1 = 5) ∧ ((fR s l1 12 = 2 → F l1 s) ∧ (fR s l1 12 ≠ 2 → wk iv L h0 d 190 5 [ln, lr (fR s l1 12)] [] s (qa F)))))) : wk iv L h0 d 190 5 [ln, lr l1] [] s (qa F) := by
  refine w_aload_n rfl rfl ?_
  refine c_null rfl (fun h => ?_) (fun h => ?_)
  · replace H := H.1 h
    refine w_aload_n rfl rfl ?_
    exact w_aret rfl rfl ⟨_, rfl, H⟩
  · replace H := H.2 h
    refine w_aload_n rfl rfl ?_
    obtain ⟨g1, H⟩ := H
    refine c_getr rfl rfl rfl g1 ?_
    refine c_null rfl (fun h => ?_) (fun h => ?_)
    · replace H := H.1 h
      refine w_aload_n rfl rfl ?_
      exact w_aret rfl rfl ⟨_, rfl, H⟩
    · replace H := H.2 h
      refine w_aload_n rfl rfl ?_
      refine c_getr rfl rfl rfl g1 ?_
      refine w_astore_n rfl rfl ?_
      refine w_goto rfl ?_
      exact wp_ls (sl_n (sl_s (sl_0))) H

/-- HoleDesk$Node.behind()LHoleDesk$Node; -/
theorem C191 {iv : List (Int × Int)} {L : Nat} {h0 : MH} {d : Nat} {s : SC} {a0 : Nat} {F : Nat → SC → Prop} (H : wk iv L h0 d 191 2 [ln, lr a0] [] s (qa F)) : ck iv L h0 d 191 [vr a0] s (qa F) := by
  show wk iv L h0 d 191 0 [lr a0] [] s (qa F)
  refine w_aload_n rfl rfl ?_
  refine w_astore_n rfl rfl ?_
  exact wp_ls (sl_n (sl_s (sl_0))) H

/-- HoleDesk$Node.behind()LHoleDesk$Node; at 2 -/
theorem C191_2 {iv : List (Int × Int)} {L : Nat} {h0 : MH} {d : Nat} {s : SC} {l1 : Nat} {F : Nat → SC → Prop} (H : (kl s l1 = 5) ∧ ((fR s l1 5 = 2 → F 2 s) ∧ (fR s l1 5 ≠ 2 → (-2147483648 ≤ (fI s l1 6) + 1 ∧ (fI s l1 6) + 1 ≤ 2147483647) ∧ (kl s (fR s l1 5) = 5) ∧ (100 ≤ kl s (fR s (fR s l1 5) 3) ∧ kl s (fR s (fR s l1 5) 3) < 108) ∧ ((le s (fR s (fR s l1 5) 3) ≤ (fI s l1 6) + 1 → wk iv L h0 d 191 2 [ln, lr (fR s l1 5)] [] s (qa F)) ∧ ((fI s l1 6) + 1 < le s (fR s (fR s l1 5) 3) → (kl s (fR s (fR s l1 5) 3) = 103) ∧ (0 ≤ (fI s l1 6) + 1 ∧ (fI s l1 6) + 1 < le s (fR s (fR s l1 5) 3)) ∧ F (aR s (fR s (fR s l1 5) 3) ((fI s l1 6) + 1)) s))))) : wk iv L h0 d 191 2 [ln, lr l1] [] s (qa F) := by
  refine w_aload_n rfl rfl ?_
  obtain ⟨g1, H⟩ := H
  refine c_getr rfl rfl rfl g1 ?_
  refine c_null rfl (fun h => ?_) (fun h => ?_)
  · replace H := H.1 h
    refine w_null rfl ?_
    exact w_aret rfl rfl ⟨_, rfl, H⟩
  · replace H := H.2 h
    refine w_aload_n rfl rfl ?_
    refine c_get rfl rfl rfl g1 ?_
    refine w_iconst (n := 1) rfl rfl ?_
    obtain ⟨g2, H⟩ := H
    refine w_iadd rfl g2 ?_
    refine w_aload_n rfl rfl ?_
    refine c_getr rfl rfl rfl g1 ?_
    obtain ⟨g3, H⟩ := H
    refine c_getr rfl rfl rfl g3 ?_
    obtain ⟨g4, H⟩ := H
    refine c_len rfl g4 ?_
    refine w_icmp_ge rfl (fun h => ?_) (fun h => ?_)
    · replace H := H.1 h
      refine w_aload_n rfl rfl ?_
      refine c_getr rfl rfl rfl g1 ?_
      refine w_astore_n rfl rfl ?_
      refine w_goto rfl ?_
      exact wp_ls (sl_n (sl_s (sl_0))) H
    · replace H := H.2 h
      refine w_aload_n rfl rfl ?_
      refine c_getr rfl rfl rfl g1 ?_
      refine c_getr rfl rfl rfl g3 ?_
      refine w_aload_n rfl rfl ?_
      refine c_get rfl rfl rfl g1 ?_
      refine w_iconst (n := 1) rfl rfl ?_
      refine w_iadd rfl g2 ?_
      obtain ⟨g5, H⟩ := H
      obtain ⟨g6, H⟩ := H
      refine c_aald (t := 3) rfl ⟨g5, by decide, by decide⟩ g6 ?_
      exact w_aret rfl rfl ⟨_, rfl, H⟩

/-- HoleDesk$Node.following()LHoleDesk$Node; -/
theorem C192 {iv : List (Int × Int)} {L : Nat} {h0 : MH} {d : Nat} {s : SC} {a0 : Nat} {F : Nat → SC → Prop} (H : (kl s a0 = 5) ∧ (100 ≤ kl s (fR s a0 3) ∧ kl s (fR s a0 3) < 108) ∧ ((le s (fR s a0 3) ≤ 0 → ck iv L h0 d 191 [vr a0] s (qa fun r4 s3 => F r4 s3)) ∧ (0 < le s (fR s a0 3) → (kl s (fR s a0 3) = 103) ∧ ((0 : Int) ≤ 0 ∧ 0 < le s (fR s a0 3)) ∧ F (aR s (fR s a0 3) 0) s))) : ck iv L h0 (d + 1) 192 [vr a0] s (qa F) := by
  show wk iv L h0 (d + 1) 192 0 [lr a0] [] s (qa F)
  refine w_aload_n rfl rfl ?_
  obtain ⟨g1, H⟩ := H
  refine c_getr rfl rfl rfl g1 ?_
  obtain ⟨g2, H⟩ := H
  refine c_len rfl g2 ?_
  refine w_if_le rfl (fun h => ?_) (fun h => ?_)
  · replace H := H.1 h
    refine w_aload_n rfl rfl ?_
    refine c_virt (p := a0) (as := []) (r := []) rfl rfl rfl rfl rfl rfl g1 (wc_mono H (Nat.le_refl _) ?_)
    rintro _ s3 ⟨r4, rfl, H⟩
    show wk iv L h0 (d + 1) 192 21 [lr a0] [vr r4] s3 (qa F)
    exact w_aret rfl rfl ⟨_, rfl, H⟩
  · replace H := H.2 h
    refine w_aload_n rfl rfl ?_
    refine c_getr rfl rfl rfl g1 ?_
    refine w_iconst (n := 0) rfl rfl ?_
    obtain ⟨g5, H⟩ := H
    obtain ⟨g6, H⟩ := H
    refine c_aald (t := 3) rfl ⟨g5, by decide, by decide⟩ g6 ?_
    refine w_goto rfl ?_
    exact w_aret rfl rfl ⟨_, rfl, H⟩

/-- HoleDesk$Pool.<init>()V -/
theorem C193 {iv : List (Int × Int)} {L : Nat} {h0 : MH} {d : Nat} {s : SC} {a0 : Nat} {F : SC → Prop} (H : (a0 ≠ 2) ∧ (353 ≤ nxt s) ∧ (kl (nA s 6 620) a0 = 6) ∧ (353 ≤ nxt s + 1) ∧ (kl (nA (nA s 6 620) 7 320) a0 = 6) ∧ F (uI (uI (uR (nA (uR (nA s 6 620) a0 0 (nxt s)) 7 320) a0 1 (nxt s + 1)) a0 2 0) a0 3 0)) : ck iv L h0 d 193 [vr a0] s (qv F) := by
  show wk iv L h0 d 193 0 [lr a0] [] s (qv F)
  refine w_aload_n rfl rfl ?_
  obtain ⟨g1, H⟩ := H
  refine c_oinit rfl rfl g1 ?_
  refine w_aload_n rfl rfl ?_
  refine w_sipush (n := 620) rfl rfl rfl ?_
  obtain ⟨g2, H⟩ := H
  refine c_anewa rfl rfl ⟨by decide, by decide⟩ g2 ?_
  show wk iv L h0 d 193 11 [lr a0] [vr (nxt s), vr a0] (nA s 6 620) (qv F)
  obtain ⟨g3, H⟩ := H
  refine c_putr rfl rfl rfl rfl g3 ?_
  refine w_aload_n rfl rfl ?_
  refine w_sipush (n := 320) rfl rfl rfl ?_
  obtain ⟨g4, H⟩ := H
  refine c_anewa rfl rfl ⟨by decide, by decide⟩ g4 ?_
  show wk iv L h0 d 193 21 [lr a0] [vr (nxt s + 1), vr a0] (nA (uR (nA s 6 620) a0 0 (nxt s)) 7 320) (qv F)
  obtain ⟨g5, H⟩ := H
  refine c_putr rfl rfl rfl rfl g5 ?_
  refine w_aload_n rfl rfl ?_
  refine w_iconst (n := 0) rfl rfl ?_
  refine c_put rfl rfl rfl rfl g5 ?_
  refine w_aload_n rfl rfl ?_
  refine w_iconst (n := 0) rfl rfl ?_
  refine c_put rfl rfl rfl rfl g5 ?_
  exact w_ret rfl rfl ⟨rfl, H⟩

/-- HoleDesk$Pool.clear()V -/
theorem C194 {iv : List (Int × Int)} {L : Nat} {h0 : MH} {d : Nat} {s : SC} {a0 : Nat} {F : SC → Prop} (H : (kl s a0 = 6) ∧ F (uI (uI s a0 2 0) a0 3 0)) : ck iv L h0 d 194 [vr a0] s (qv F) := by
  show wk iv L h0 d 194 0 [lr a0] [] s (qv F)
  refine w_aload_n rfl rfl ?_
  refine w_iconst (n := 0) rfl rfl ?_
  obtain ⟨g1, H⟩ := H
  refine c_put rfl rfl rfl rfl g1 ?_
  refine w_aload_n rfl rfl ?_
  refine w_iconst (n := 0) rfl rfl ?_
  refine c_put rfl rfl rfl rfl g1 ?_
  exact w_ret rfl rfl ⟨rfl, H⟩

/-- HoleDesk$Pool.made(IILHoleDesk$Node;LHoleDesk$Seen;)LHoleDesk$Value; -/
theorem C195 {iv : List (Int × Int)} {L : Nat} {h0 : MH} {d : Nat} {s : SC} {a0 : Nat} {a1 : Int} {a2 : Int} {a3 : Nat} {a4 : Nat} {F : Nat → SC → Prop} (H : (kl s a0 = 6) ∧ (100 ≤ kl s (fR s a0 0) ∧ kl s (fR s a0 0) < 108) ∧ ((fI s a0 2 < le s (fR s a0 0) → (kl s (fR s a0 0) = 106) ∧ (0 ≤ fI s a0 2 ∧ fI s a0 2 < le s (fR s a0 0)) ∧ ((aR s (fR s a0 0) (fI s a0 2) ≠ 2 → (-2147483648 ≤ (fI s a0 2) + 1 ∧ (fI s a0 2) + 1 ≤ 2147483647) ∧ (kl s (aR s (fR s a0 0) (fI s a0 2)) = 10) ∧ ck iv L h0 d 225 [vr (aR s (fR s a0 0) (fI s a0 2))] (uR (uR (uR (uR (uI (uI (uI s a0 2 ((fI s a0 2) + 1)) (aR s (fR s a0 0) (fI s a0 2)) 0 a1) (aR s (fR s a0 0) (fI s a0 2)) 1 a2) (aR s (fR s a0 0) (fI s a0 2)) 2 a3) (aR s (fR s a0 0) (fI s a0 2)) 3 2) (aR s (fR s a0 0) (fI s a0 2)) 4 2) (aR s (fR s a0 0) (fI s a0 2)) 5 a4) (qi fun r8 s7 => (r8 = 0 ∨ r8 = 1) ∧ (kl s7 (aR s (fR s a0 0) (fI s a0 2)) = 10) ∧ F (aR s (fR s a0 0) (fI s a0 2)) (uI s7 (aR s (fR s a0 0) (fI s a0 2)) 6 r8))) ∧ (aR s (fR s a0 0) (fI s a0 2) = 2 → (353 ≤ nxt s) ∧ (nxt s ≠ 2) ∧ ck iv L h0 d 224 [vr (nxt s)] (nO s 9) (qv fun s13 => (kl s13 (fR s a0 0) = 106) ∧ (0 ≤ fI s a0 2 ∧ fI s a0 2 < le s13 (fR s a0 0)) ∧ (nxt s = 2 ∨ kl s13 (nxt s) = 10) ∧ (kl s13 a0 = 6) ∧ (-2147483648 ≤ (fI s13 a0 2) + 1 ∧ (fI s13 a0 2) + 1 ≤ 2147483647) ∧ (kl s13 (fR s13 a0 0) = 106) ∧ (0 ≤ fI s13 a0 2 ∧ fI s13 a0 2 < le s13 (fR s13 a0 0)) ∧ (kl s13 (aR (uB s13 (fR s a0 0) (fI s a0 2) (nxt s)) (fR s13 a0 0) (fI s13 a0 2)) = 10) ∧ ck iv L h0 d 225 [vr (aR (uB s13 (fR s a0 0) (fI s a0 2) (nxt s)) (fR s13 a0 0) (fI s13 a0 2))] (uR (uR (uR (uR (uI (uI (uI (uB s13 (fR s a0 0) (fI s a0 2) (nxt s)) a0 2 ((fI s13 a0 2) + 1)) (aR (uB s13 (fR s a0 0) (fI s a0 2) (nxt s)) (fR s13 a0 0) (fI s13 a0 2)) 0 a1) (aR (uB s13 (fR s a0 0) (fI s a0 2) (nxt s)) (fR s13 a0 0) (fI s13 a0 2)) 1 a2) (aR (uB s13 (fR s a0 0) (fI s a0 2) (nxt s)) (fR s13 a0 0) (fI s13 a0 2)) 2 a3) (aR (uB s13 (fR s a0 0) (fI s a0 2) (nxt s)) (fR s13 a0 0) (fI s13 a0 2)) 3 2) (aR (uB s13 (fR s a0 0) (fI s a0 2) (nxt s)) (fR s13 a0 0) (fI s13 a0 2)) 4 2) (aR (uB s13 (fR s a0 0) (fI s a0 2) (nxt s)) (fR s13 a0 0) (fI s13 a0 2)) 5 a4) (qi fun r23 s22 => (r23 = 0 ∨ r23 = 1) ∧ (kl s22 (aR (uB s13 (fR s a0 0) (fI s a0 2) (nxt s)) (fR s13 a0 0) (fI s13 a0 2)) = 10) ∧ F (aR (uB s13 (fR s a0 0) (fI s a0 2) (nxt s)) (fR s13 a0 0) (fI s13 a0 2)) (uI s22 (aR (uB s13 (fR s a0 0) (fI s a0 2) (nxt s)) (fR s13 a0 0) (fI s13 a0 2)) 6 r23)))))) ∧ (le s (fR s a0 0) ≤ fI s a0 2 → (353 ≤ nxt s) ∧ (nxt s ≠ 2) ∧ ck iv L h0 d 224 [vr (nxt s)] (nO s 9) (qv fun s28 => (kl s28 (nxt s) = 10) ∧ ck iv L h0 d 225 [vr (nxt s)] (uR (uR (uR (uR (uI (uI s28 (nxt s) 0 a1) (nxt s) 1 a2) (nxt s) 2 a3) (nxt s) 3 2) (nxt s) 4 2) (nxt s) 5 a4) (qi fun r31 s30 => (r31 = 0 ∨ r31 = 1) ∧ (kl s30 (nxt s) = 10) ∧ F (nxt s) (uI s30 (nxt s) 6 r31)))))) : ck iv L h0 (d + 1) 195 [vr a0, vi a1, vi a2, vr a3, vr a4] s (qa F) := by
  show wk iv L h0 (d + 1) 195 0 [lr a0, li a1, li a2, lr a3, lr a4] [] s (qa F)
  refine w_aload_n rfl rfl ?_
  obtain ⟨g1, H⟩ := H
  refine c_get rfl rfl rfl g1 ?_
  refine w_aload_n rfl rfl ?_
  refine c_getr rfl rfl rfl g1 ?_
  obtain ⟨g2, H⟩ := H
  refine c_len rfl g2 ?_
  refine w_icmp_lt rfl (fun h => ?_) (fun h => ?_)
  · replace H := H.1 h
    refine w_aload_n rfl rfl ?_
    refine c_getr rfl rfl rfl g1 ?_
    refine w_aload_n rfl rfl ?_
    refine c_get rfl rfl rfl g1 ?_
    obtain ⟨g3, H⟩ := H
    obtain ⟨g4, H⟩ := H
    refine c_aald (t := 6) rfl ⟨g3, by decide, by decide⟩ g4 ?_
    refine c_nonnull rfl (fun h => ?_) (fun h => ?_)
    · replace H := H.1 h
      refine w_aload_n rfl rfl ?_
      refine c_getr rfl rfl rfl g1 ?_
      refine w_aload_n rfl rfl ?_
      refine w_dup rfl rfl ?_
      refine c_get rfl rfl rfl g1 ?_
      refine w_dup_x1 rfl rfl rfl ?_
      refine w_iconst (n := 1) rfl rfl ?_
      obtain ⟨g5, H⟩ := H
      refine w_iadd rfl g5 ?_
      refine c_put rfl rfl rfl rfl g1 ?_
      refine c_aald (t := 6) rfl ⟨g3, by decide, by decide⟩ g4 ?_
      show wk iv L h0 (d + 1) 195 68 [lr a0, li a1, li a2, lr a3, lr a4] [vr (aR s (fR s a0 0) (fI s a0 2))] (uI s a0 2 ((fI s a0 2) + 1)) (qa F)
      refine w_astore rfl rfl ?_
      refine w_aload rfl rfl ?_
      refine w_iload_n rfl rfl ?_
      obtain ⟨g6, H⟩ := H
      refine c_put rfl rfl rfl rfl g6 ?_
      refine w_aload rfl rfl ?_
      refine w_iload_n rfl rfl ?_
      refine c_put rfl rfl rfl rfl g6 ?_
      refine w_aload rfl rfl ?_
      refine w_aload_n rfl rfl ?_
      refine c_putr rfl rfl rfl rfl g6 ?_
      refine w_aload rfl rfl ?_
      refine w_null rfl ?_
      refine c_putr rfl rfl rfl rfl g6 ?_
      refine w_aload rfl rfl ?_
      refine w_null rfl ?_
      refine c_putr rfl rfl rfl rfl g6 ?_
      refine w_aload rfl rfl ?_
      refine w_aload rfl rfl ?_
      refine c_putr rfl rfl rfl rfl g6 ?_
      refine w_aload rfl rfl ?_
      refine w_aload rfl rfl ?_
      refine c_virt (p := (aR s (fR s a0 0) (fI s a0 2))) (as := []) (r := [vr (aR s (fR s a0 0) (fI s a0 2))]) rfl rfl rfl rfl rfl rfl g6 (wc_mono H (Nat.le_refl _) ?_)
      rintro _ s7 ⟨r8, rfl, H⟩
      show wk iv L h0 (d + 1) 195 114 [lr a0, li a1, li a2, lr a3, lr a4, lr (aR s (fR s a0 0) (fI s a0 2))] [vi r8, vr (aR s (fR s a0 0) (fI s a0 2))] s7 (qa F)
      obtain ⟨g9, H⟩ := H
      obtain ⟨g10, H⟩ := H
      refine c_putz rfl rfl rfl rfl g9 g10 ?_
      refine w_aload rfl rfl ?_
      exact w_aret rfl rfl ⟨_, rfl, H⟩
    · replace H := H.2 h
      refine w_aload_n rfl rfl ?_
      refine c_getr rfl rfl rfl g1 ?_
      refine w_aload_n rfl rfl ?_
      refine c_get rfl rfl rfl g1 ?_
      obtain ⟨g11, H⟩ := H
      refine c_new rfl rfl g11 ?_
      show wk iv L h0 (d + 1) 195 47 [lr a0, li a1, li a2, lr a3, lr a4] [vr (nxt s), vi (fI s a0 2), vr (fR s a0 0)] (nO s 9) (qa F)
      refine w_dup rfl rfl ?_
      obtain ⟨g12, H⟩ := H
      refine c_spec (p := (nxt s)) (as := []) (r := [vr (nxt s), vi (fI s a0 2), vr (fR s a0 0)]) rfl rfl rfl rfl rfl g12 (wc_mono H (Nat.le_refl _) ?_)
      rintro _ s13 ⟨rfl, H⟩
      show wk iv L h0 (d + 1) 195 51 [lr a0, li a1, li a2, lr a3, lr a4] [vr (nxt s), vi (fI s a0 2), vr (fR s a0 0)] s13 (qa F)
      obtain ⟨g14, H⟩ := H
      obtain ⟨g15, H⟩ := H
      obtain ⟨g16, H⟩ := H
      refine c_aast rfl rfl g14 g15 (by rcases g16 with e | e; exact Or.inl e; exact Or.inr ⟨e, by decide⟩) ?_
      refine w_aload_n rfl rfl ?_
      obtain ⟨g17, H⟩ := H
      refine c_getr rfl rfl rfl g17 ?_
      show wk iv L h0 (d + 1) 195 56 [lr a0, li a1, li a2, lr a3, lr a4] [vr (fR s13 a0 0)] (uB s13 (fR s a0 0) (fI s a0 2) (nxt s)) (qa F)
      refine w_aload_n rfl rfl ?_
      refine w_dup rfl rfl ?_
      refine c_get rfl rfl rfl g17 ?_
      show wk iv L h0 (d + 1) 195 61 [lr a0, li a1, li a2, lr a3, lr a4] [vi (fI s13 a0 2), vr a0, vr (fR s13 a0 0)] (uB s13 (fR s a0 0) (fI s a0 2) (nxt s)) (qa F)
      refine w_dup_x1 rfl rfl rfl ?_
      refine w_iconst (n := 1) rfl rfl ?_
      obtain ⟨g18, H⟩ := H
      refine w_iadd rfl g18 ?_
      refine c_put rfl rfl rfl rfl g17 ?_
      obtain ⟨g19, H⟩ := H
      obtain ⟨g20, H⟩ := H
      refine c_aald (t := 6) rfl ⟨g19, by decide, by decide⟩ g20 ?_
      show wk iv L h0 (d + 1) 195 68 [lr a0, li a1, li a2, lr a3, lr a4] [vr (aR (uB s13 (fR s a0 0) (fI s a0 2) (nxt s)) (fR s13 a0 0) (fI s13 a0 2))] (uI (uB s13 (fR s a0 0) (fI s a0 2) (nxt s)) a0 2 ((fI s13 a0 2) + 1)) (qa F)
      refine w_astore rfl rfl ?_
      refine w_aload rfl rfl ?_
      refine w_iload_n rfl rfl ?_
      obtain ⟨g21, H⟩ := H
      refine c_put rfl rfl rfl rfl g21 ?_
      refine w_aload rfl rfl ?_
      refine w_iload_n rfl rfl ?_
      refine c_put rfl rfl rfl rfl g21 ?_
      refine w_aload rfl rfl ?_
      refine w_aload_n rfl rfl ?_
      refine c_putr rfl rfl rfl rfl g21 ?_
      refine w_aload rfl rfl ?_
      refine w_null rfl ?_
      refine c_putr rfl rfl rfl rfl g21 ?_
      refine w_aload rfl rfl ?_
      refine w_null rfl ?_
      refine c_putr rfl rfl rfl rfl g21 ?_
      refine w_aload rfl rfl ?_
      refine w_aload rfl rfl ?_
      refine c_putr rfl rfl rfl rfl g21 ?_
      refine w_aload rfl rfl ?_
      refine w_aload rfl rfl ?_
      refine c_virt (p := (aR (uB s13 (fR s a0 0) (fI s a0 2) (nxt s)) (fR s13 a0 0) (fI s13 a0 2))) (as := []) (r := [vr (aR (uB s13 (fR s a0 0) (fI s a0 2) (nxt s)) (fR s13 a0 0) (fI s13 a0 2))]) rfl rfl rfl rfl rfl rfl g21 (wc_mono H (Nat.le_refl _) ?_)
      rintro _ s22 ⟨r23, rfl, H⟩
      show wk iv L h0 (d + 1) 195 114 [lr a0, li a1, li a2, lr a3, lr a4, lr (aR (uB s13 (fR s a0 0) (fI s a0 2) (nxt s)) (fR s13 a0 0) (fI s13 a0 2))] [vi r23, vr (aR (uB s13 (fR s a0 0) (fI s a0 2) (nxt s)) (fR s13 a0 0) (fI s13 a0 2))] s22 (qa F)
      obtain ⟨g24, H⟩ := H
      obtain ⟨g25, H⟩ := H
      refine c_putz rfl rfl rfl rfl g24 g25 ?_
      refine w_aload rfl rfl ?_
      exact w_aret rfl rfl ⟨_, rfl, H⟩
  · replace H := H.2 h
    obtain ⟨g26, H⟩ := H
    refine c_new rfl rfl g26 ?_
    show wk iv L h0 (d + 1) 195 15 [lr a0, li a1, li a2, lr a3, lr a4] [vr (nxt s)] (nO s 9) (qa F)
    refine w_dup rfl rfl ?_
    obtain ⟨g27, H⟩ := H
    refine c_spec (p := (nxt s)) (as := []) (r := [vr (nxt s)]) rfl rfl rfl rfl rfl g27 (wc_mono H (Nat.le_refl _) ?_)
    rintro _ s28 ⟨rfl, H⟩
    show wk iv L h0 (d + 1) 195 19 [lr a0, li a1, li a2, lr a3, lr a4] [vr (nxt s)] s28 (qa F)
    refine w_astore rfl rfl ?_
    refine w_goto rfl ?_
    refine w_aload rfl rfl ?_
    refine w_iload_n rfl rfl ?_
    obtain ⟨g29, H⟩ := H
    refine c_put rfl rfl rfl rfl g29 ?_
    refine w_aload rfl rfl ?_
    refine w_iload_n rfl rfl ?_
    refine c_put rfl rfl rfl rfl g29 ?_
    refine w_aload rfl rfl ?_
    refine w_aload_n rfl rfl ?_
    refine c_putr rfl rfl rfl rfl g29 ?_
    refine w_aload rfl rfl ?_
    refine w_null rfl ?_
    refine c_putr rfl rfl rfl rfl g29 ?_
    refine w_aload rfl rfl ?_
    refine w_null rfl ?_
    refine c_putr rfl rfl rfl rfl g29 ?_
    refine w_aload rfl rfl ?_
    refine w_aload rfl rfl ?_
    refine c_putr rfl rfl rfl rfl g29 ?_
    refine w_aload rfl rfl ?_
    refine w_aload rfl rfl ?_
    refine c_virt (p := (nxt s)) (as := []) (r := [vr (nxt s)]) rfl rfl rfl rfl rfl rfl g29 (wc_mono H (Nat.le_refl _) ?_)
    rintro _ s30 ⟨r31, rfl, H⟩
    show wk iv L h0 (d + 1) 195 114 [lr a0, li a1, li a2, lr a3, lr a4, lr (nxt s)] [vi r31, vr (nxt s)] s30 (qa F)
    obtain ⟨g32, H⟩ := H
    obtain ⟨g33, H⟩ := H
    refine c_putz rfl rfl rfl rfl g32 g33 ?_
    refine w_aload rfl rfl ?_
    exact w_aret rfl rfl ⟨_, rfl, H⟩

/-- HoleDesk$Pool.plain(II)LHoleDesk$Value; -/
theorem C196 {iv : List (Int × Int)} {L : Nat} {h0 : MH} {d : Nat} {s : SC} {a0 : Nat} {a1 : Int} {a2 : Int} {F : Nat → SC → Prop} (H : (kl s a0 = 6) ∧ ck iv L h0 d 195 [vr a0, vi a1, vi a2, vr 2, vr 2] s (qa fun r3 s2 => F r3 s2)) : ck iv L h0 (d + 1) 196 [vr a0, vi a1, vi a2] s (qa F) := by
  show wk iv L h0 (d + 1) 196 0 [lr a0, li a1, li a2] [] s (qa F)
  refine w_aload_n rfl rfl ?_
  refine w_iload_n rfl rfl ?_
  refine w_iload_n rfl rfl ?_
  refine w_null rfl ?_
  refine w_null rfl ?_
  obtain ⟨g1, H⟩ := H
  refine c_virt (p := a0) (as := [vi a1, vi a2, vr 2, vr 2]) (r := []) rfl rfl rfl rfl rfl rfl g1 (wc_mono H (Nat.le_refl _) ?_)
  rintro _ s2 ⟨r3, rfl, H⟩
  show wk iv L h0 (d + 1) 196 8 [lr a0, li a1, li a2] [vr r3] s2 (qa F)
  exact w_aret rfl rfl ⟨_, rfl, H⟩

/-- HoleDesk$Pool.seeing(ILHoleDesk$Node;LHoleDesk$Seen;)LHoleDesk$Value; -/
theorem C197 {iv : List (Int × Int)} {L : Nat} {h0 : MH} {d : Nat} {s : SC} {a0 : Nat} {a1 : Int} {a2 : Nat} {a3 : Nat} {F : Nat → SC → Prop} (H : (kl s a0 = 6) ∧ ck iv L h0 d 195 [vr a0, vi a1, vi 0, vr a2, vr a3] s (qa fun r3 s2 => F r3 s2)) : ck iv L h0 (d + 1) 197 [vr a0, vi a1, vr a2, vr a3] s (qa F) := by
  show wk iv L h0 (d + 1) 197 0 [lr a0, li a1, lr a2, lr a3] [] s (qa F)
  refine w_aload_n rfl rfl ?_
  refine w_iload_n rfl rfl ?_
  refine w_iconst (n := 0) rfl rfl ?_
  refine w_aload_n rfl rfl ?_
  refine w_aload_n rfl rfl ?_
  obtain ⟨g1, H⟩ := H
  refine c_virt (p := a0) (as := [vi a1, vi 0, vr a2, vr a3]) (r := []) rfl rfl rfl rfl rfl rfl g1 (wc_mono H (Nat.le_refl _) ?_)
  rintro _ s2 ⟨r3, rfl, H⟩
  show wk iv L h0 (d + 1) 197 8 [lr a0, li a1, lr a2, lr a3] [vr r3] s2 (qa F)
  exact w_aret rfl rfl ⟨_, rfl, H⟩

/-- HoleDesk$Pool.couple(LHoleDesk$Value;LHoleDesk$Value;)LHoleDesk$Value; -/
theorem C198 {iv : List (Int × Int)} {L : Nat} {h0 : MH} {d : Nat} {s : SC} {a0 : Nat} {a1 : Nat} {a2 : Nat} {F : Nat → SC → Prop} (H : (kl s a0 = 6) ∧ ck iv L h0 d 195 [vr a0, vi 3, vi 0, vr 2, vr 2] s (qa fun r3 s2 => (kl s2 r3 = 10) ∧ (kl s2 a1 = 10) ∧ ((fI s2 a1 6 ≠ 0 → F r3 (uI (uR (uR s2 r3 3 a1) r3 4 a2) r3 6 1)) ∧ (fI s2 a1 6 = 0 → (kl s2 a2 = 10) ∧ ((fI s2 a2 6 = 0 → F r3 (uI (uR (uR s2 r3 3 a1) r3 4 a2) r3 6 0)) ∧ (fI s2 a2 6 ≠ 0 → F r3 (uI (uR (uR s2 r3 3 a1) r3 4 a2) r3 6 1))))))) : ck iv L h0 (d + 1) 198 [vr a0, vr a1, vr a2] s (qa F) := by
  show wk iv L h0 (d + 1) 198 0 [lr a0, lr a1, lr a2] [] s (qa F)
  refine w_aload_n rfl rfl ?_
  refine w_iconst (n := 3) rfl rfl ?_
  refine w_iconst (n := 0) rfl rfl ?_
  refine w_null rfl ?_
  refine w_null rfl ?_
  obtain ⟨g1, H⟩ := H
  refine c_virt (p := a0) (as := [vi 3, vi 0, vr 2, vr 2]) (r := []) rfl rfl rfl rfl rfl rfl g1 (wc_mono H (Nat.le_refl _) ?_)
  rintro _ s2 ⟨r3, rfl, H⟩
  show wk iv L h0 (d + 1) 198 8 [lr a0, lr a1, lr a2] [vr r3] s2 (qa F)
  refine w_astore_n rfl rfl ?_
  refine w_aload_n rfl rfl ?_
  refine w_aload_n rfl rfl ?_
  obtain ⟨g4, H⟩ := H
  refine c_putr rfl rfl rfl rfl g4 ?_
  refine w_aload_n rfl rfl ?_
  refine w_aload_n rfl rfl ?_
  refine c_putr rfl rfl rfl rfl g4 ?_
  refine w_aload_n rfl rfl ?_
  refine w_aload_n rfl rfl ?_
  obtain ⟨g5, H⟩ := H
  refine c_get rfl rfl rfl g5 ?_
  show wk iv L h0 (d + 1) 198 24 [lr a0, lr a1, lr a2, lr r3] [vi (fI s2 a1 6), vr r3] (uR (uR s2 r3 3 a1) r3 4 a2) (qa F)
  refine w_if_ne rfl (fun h => ?_) (fun h => ?_)
  · replace H := H.1 h
    refine w_iconst (n := 1) rfl rfl ?_
    refine w_goto rfl ?_
    refine c_putz rfl rfl rfl rfl (by decide) g4 ?_
    refine w_aload_n rfl rfl ?_
    exact w_aret rfl rfl ⟨_, rfl, H⟩
  · replace H := H.2 h
    refine w_aload_n rfl rfl ?_
    obtain ⟨g6, H⟩ := H
    refine c_get rfl rfl rfl g6 ?_
    show wk iv L h0 (d + 1) 198 31 [lr a0, lr a1, lr a2, lr r3] [vi (fI s2 a2 6), vr r3] (uR (uR s2 r3 3 a1) r3 4 a2) (qa F)
    refine w_if_eq rfl (fun h => ?_) (fun h => ?_)
    · replace H := H.1 h
      refine w_iconst (n := 0) rfl rfl ?_
      refine c_putz rfl rfl rfl rfl (by decide) g4 ?_
      refine w_aload_n rfl rfl ?_
      exact w_aret rfl rfl ⟨_, rfl, H⟩
    · replace H := H.2 h
      refine w_iconst (n := 1) rfl rfl ?_
      refine w_goto rfl ?_
      refine c_putz rfl rfl rfl rfl (by decide) g4 ?_
      refine w_aload_n rfl rfl ?_
      exact w_aret rfl rfl ⟨_, rfl, H⟩

/-- HoleDesk$Pool.framed(LHoleDesk$Value;)LHoleDesk$Value; -/
theorem C199 {iv : List (Int × Int)} {L : Nat} {h0 : MH} {d : Nat} {s : SC} {a0 : Nat} {a1 : Nat} {F : Nat → SC → Prop} (H : (kl s a0 = 6) ∧ ck iv L h0 d 195 [vr a0, vi 6, vi 0, vr 2, vr 2] s (qa fun r3 s2 => (kl s2 r3 = 10) ∧ F r3 (uR s2 r3 3 a1))) : ck iv L h0 (d + 1) 199 [vr a0, vr a1] s (qa F) := by
  show wk iv L h0 (d + 1) 199 0 [lr a0, lr a1] [] s (qa F)
  refine w_aload_n rfl rfl ?_
  refine w_bipush (n := 6) rfl rfl rfl ?_
  refine w_iconst (n := 0) rfl rfl ?_
  refine w_null rfl ?_
  refine w_null rfl ?_
  obtain ⟨g1, H⟩ := H
  refine c_virt (p := a0) (as := [vi 6, vi 0, vr 2, vr 2]) (r := []) rfl rfl rfl rfl rfl rfl g1 (wc_mono H (Nat.le_refl _) ?_)
  rintro _ s2 ⟨r3, rfl, H⟩
  show wk iv L h0 (d + 1) 199 9 [lr a0, lr a1] [vr r3] s2 (qa F)
  refine w_astore_n rfl rfl ?_
  refine w_aload_n rfl rfl ?_
  refine w_aload_n rfl rfl ?_
  obtain ⟨g4, H⟩ := H
  refine c_putr rfl rfl rfl rfl g4 ?_
  refine w_aload_n rfl rfl ?_
  exact w_aret rfl rfl ⟨_, rfl, H⟩

/-- HoleDesk$Pool.act(LHoleDesk$Node;LHoleDesk$Value;LHoleDesk$Value;LHoleDesk$Seen;)LHoleDesk$Value; -/
theorem C200 {iv : List (Int × Int)} {L : Nat} {h0 : MH} {d : Nat} {s : SC} {a0 : Nat} {a1 : Nat} {a2 : Nat} {a3 : Nat} {a4 : Nat} {F : Nat → SC → Prop} (H : (kl s a0 = 6) ∧ ck iv L h0 d 195 [vr a0, vi 7, vi 0, vr a1, vr a4] s (qa fun r3 s2 => (kl s2 r3 = 10) ∧ F r3 (uR (uR s2 r3 3 a2) r3 4 a3))) : ck iv L h0 (d + 1) 200 [vr a0, vr a1, vr a2, vr a3, vr a4] s (qa F) := by
  show wk iv L h0 (d + 1) 200 0 [lr a0, lr a1, lr a2, lr a3, lr a4] [] s (qa F)
  refine w_aload_n rfl rfl ?_
  refine w_bipush (n := 7) rfl rfl rfl ?_
  refine w_iconst (n := 0) rfl rfl ?_
  refine w_aload_n rfl rfl ?_
  refine w_aload rfl rfl ?_
  obtain ⟨g1, H⟩ := H
  refine c_virt (p := a0) (as := [vi 7, vi 0, vr a1, vr a4]) (r := []) rfl rfl rfl rfl rfl rfl g1 (wc_mono H (Nat.le_refl _) ?_)
  rintro _ s2 ⟨r3, rfl, H⟩
  show wk iv L h0 (d + 1) 200 10 [lr a0, lr a1, lr a2, lr a3, lr a4] [vr r3] s2 (qa F)
  refine w_astore rfl rfl ?_
  refine w_aload rfl rfl ?_
  refine w_aload_n rfl rfl ?_
  obtain ⟨g4, H⟩ := H
  refine c_putr rfl rfl rfl rfl g4 ?_
  refine w_aload rfl rfl ?_
  refine w_aload_n rfl rfl ?_
  refine c_putr rfl rfl rfl rfl g4 ?_
  refine w_aload rfl rfl ?_
  exact w_aret rfl rfl ⟨_, rfl, H⟩

/-- HoleDesk$Pool.bind(ILHoleDesk$Value;LHoleDesk$Seen;)LHoleDesk$Seen; -/
theorem C201 {iv : List (Int × Int)} {L : Nat} {h0 : MH} {d : Nat} {s : SC} {a0 : Nat} {a1 : Int} {a2 : Nat} {a3 : Nat} {F : Nat → SC → Prop} (H : (kl s a0 = 6) ∧ (100 ≤ kl s (fR s a0 1) ∧ kl s (fR s a0 1) < 108) ∧ ((fI s a0 3 < le s (fR s a0 1) → (kl s (fR s a0 1) = 107) ∧ (0 ≤ fI s a0 3 ∧ fI s a0 3 < le s (fR s a0 1)) ∧ ((aR s (fR s a0 1) (fI s a0 3) ≠ 2 → (-2147483648 ≤ (fI s a0 3) + 1 ∧ (fI s a0 3) + 1 ≤ 2147483647) ∧ (kl s (aR s (fR s a0 1) (fI s a0 3)) = 7) ∧ F (aR s (fR s a0 1) (fI s a0 3)) (uR (uR (uI (uI s a0 3 ((fI s a0 3) + 1)) (aR s (fR s a0 1) (fI s a0 3)) 0 a1) (aR s (fR s a0 1) (fI s a0 3)) 1 a2) (aR s (fR s a0 1) (fI s a0 3)) 2 a3)) ∧ (aR s (fR s a0 1) (fI s a0 3) = 2 → (353 ≤ nxt s) ∧ (nxt s ≠ 2) ∧ ck iv L h0 d 202 [vr (nxt s)] (nO s 6) (qv fun s9 => (kl s9 (fR s a0 1) = 107) ∧ (0 ≤ fI s a0 3 ∧ fI s a0 3 < le s9 (fR s a0 1)) ∧ (nxt s = 2 ∨ kl s9 (nxt s) = 7) ∧ (kl s9 a0 = 6) ∧ (-2147483648 ≤ (fI s9 a0 3) + 1 ∧ (fI s9 a0 3) + 1 ≤ 2147483647) ∧ (kl s9 (fR s9 a0 1) = 107) ∧ (0 ≤ fI s9 a0 3 ∧ fI s9 a0 3 < le s9 (fR s9 a0 1)) ∧ (kl s9 (aR (uB s9 (fR s a0 1) (fI s a0 3) (nxt s)) (fR s9 a0 1) (fI s9 a0 3)) = 7) ∧ F (aR (uB s9 (fR s a0 1) (fI s a0 3) (nxt s)) (fR s9 a0 1) (fI s9 a0 3)) (uR (uR (uI (uI (uB s9 (fR s a0 1) (fI s a0 3) (nxt s)) a0 3 ((fI s9 a0 3) + 1)) (aR (uB s9 (fR s a0 1) (fI s a0 3) (nxt s)) (fR s9 a0 1) (fI s9 a0 3)) 0 a1) (aR (uB s9 (fR s a0 1) (fI s a0 3) (nxt s)) (fR s9 a0 1) (fI s9 a0 3)) 1 a2) (aR (uB s9 (fR s a0 1) (fI s a0 3) (nxt s)) (fR s9 a0 1) (fI s9 a0 3)) 2 a3))))) ∧ (le s (fR s a0 1) ≤ fI s a0 3 → (353 ≤ nxt s) ∧ (nxt s ≠ 2) ∧ ck iv L h0 d 202 [vr (nxt s)] (nO s 6) (qv fun s20 => (kl s20 (nxt s) = 7) ∧ F (nxt s) (uR (uR (uI s20 (nxt s) 0 a1) (nxt s) 1 a2) (nxt s) 2 a3))))) : ck iv L h0 (d + 1) 201 [vr a0, vi a1, vr a2, vr a3] s (qa F) := by
  show wk iv L h0 (d + 1) 201 0 [lr a0, li a1, lr a2, lr a3] [] s (qa F)
  refine w_aload_n rfl rfl ?_
  obtain ⟨g1, H⟩ := H
  refine c_get rfl rfl rfl g1 ?_
  refine w_aload_n rfl rfl ?_
  refine c_getr rfl rfl rfl g1 ?_
  obtain ⟨g2, H⟩ := H
  refine c_len rfl g2 ?_
  refine w_icmp_lt rfl (fun h => ?_) (fun h => ?_)
  · replace H := H.1 h
    refine w_aload_n rfl rfl ?_
    refine c_getr rfl rfl rfl g1 ?_
    refine w_aload_n rfl rfl ?_
    refine c_get rfl rfl rfl g1 ?_
    obtain ⟨g3, H⟩ := H
    obtain ⟨g4, H⟩ := H
    refine c_aald (t := 7) rfl ⟨g3, by decide, by decide⟩ g4 ?_
    refine c_nonnull rfl (fun h => ?_) (fun h => ?_)
    · replace H := H.1 h
      refine w_aload_n rfl rfl ?_
      refine c_getr rfl rfl rfl g1 ?_
      refine w_aload_n rfl rfl ?_
      refine w_dup rfl rfl ?_
      refine c_get rfl rfl rfl g1 ?_
      refine w_dup_x1 rfl rfl rfl ?_
      refine w_iconst (n := 1) rfl rfl ?_
      obtain ⟨g5, H⟩ := H
      refine w_iadd rfl g5 ?_
      refine c_put rfl rfl rfl rfl g1 ?_
      refine c_aald (t := 7) rfl ⟨g3, by decide, by decide⟩ g4 ?_
      show wk iv L h0 (d + 1) 201 68 [lr a0, li a1, lr a2, lr a3] [vr (aR s (fR s a0 1) (fI s a0 3))] (uI s a0 3 ((fI s a0 3) + 1)) (qa F)
      refine w_astore rfl rfl ?_
      refine w_aload rfl rfl ?_
      refine w_iload_n rfl rfl ?_
      obtain ⟨g6, H⟩ := H
      refine c_put rfl rfl rfl rfl g6 ?_
      refine w_aload rfl rfl ?_
      refine w_aload_n rfl rfl ?_
      refine c_putr rfl rfl rfl rfl g6 ?_
      refine w_aload rfl rfl ?_
      refine w_aload_n rfl rfl ?_
      refine c_putr rfl rfl rfl rfl g6 ?_
      refine w_aload rfl rfl ?_
      exact w_aret rfl rfl ⟨_, rfl, H⟩
    · replace H := H.2 h
      refine w_aload_n rfl rfl ?_
      refine c_getr rfl rfl rfl g1 ?_
      refine w_aload_n rfl rfl ?_
      refine c_get rfl rfl rfl g1 ?_
      obtain ⟨g7, H⟩ := H
      refine c_new rfl rfl g7 ?_
      show wk iv L h0 (d + 1) 201 47 [lr a0, li a1, lr a2, lr a3] [vr (nxt s), vi (fI s a0 3), vr (fR s a0 1)] (nO s 6) (qa F)
      refine w_dup rfl rfl ?_
      obtain ⟨g8, H⟩ := H
      refine c_spec (p := (nxt s)) (as := []) (r := [vr (nxt s), vi (fI s a0 3), vr (fR s a0 1)]) rfl rfl rfl rfl rfl g8 (wc_mono H (Nat.le_refl _) ?_)
      rintro _ s9 ⟨rfl, H⟩
      show wk iv L h0 (d + 1) 201 51 [lr a0, li a1, lr a2, lr a3] [vr (nxt s), vi (fI s a0 3), vr (fR s a0 1)] s9 (qa F)
      obtain ⟨g10, H⟩ := H
      obtain ⟨g11, H⟩ := H
      obtain ⟨g12, H⟩ := H
      refine c_aast rfl rfl g10 g11 (by rcases g12 with e | e; exact Or.inl e; exact Or.inr ⟨e, by decide⟩) ?_
      refine w_aload_n rfl rfl ?_
      obtain ⟨g13, H⟩ := H
      refine c_getr rfl rfl rfl g13 ?_
      show wk iv L h0 (d + 1) 201 56 [lr a0, li a1, lr a2, lr a3] [vr (fR s9 a0 1)] (uB s9 (fR s a0 1) (fI s a0 3) (nxt s)) (qa F)
      refine w_aload_n rfl rfl ?_
      refine w_dup rfl rfl ?_
      refine c_get rfl rfl rfl g13 ?_
      show wk iv L h0 (d + 1) 201 61 [lr a0, li a1, lr a2, lr a3] [vi (fI s9 a0 3), vr a0, vr (fR s9 a0 1)] (uB s9 (fR s a0 1) (fI s a0 3) (nxt s)) (qa F)
      refine w_dup_x1 rfl rfl rfl ?_
      refine w_iconst (n := 1) rfl rfl ?_
      obtain ⟨g14, H⟩ := H
      refine w_iadd rfl g14 ?_
      refine c_put rfl rfl rfl rfl g13 ?_
      obtain ⟨g15, H⟩ := H
      obtain ⟨g16, H⟩ := H
      refine c_aald (t := 7) rfl ⟨g15, by decide, by decide⟩ g16 ?_
      show wk iv L h0 (d + 1) 201 68 [lr a0, li a1, lr a2, lr a3] [vr (aR (uB s9 (fR s a0 1) (fI s a0 3) (nxt s)) (fR s9 a0 1) (fI s9 a0 3))] (uI (uB s9 (fR s a0 1) (fI s a0 3) (nxt s)) a0 3 ((fI s9 a0 3) + 1)) (qa F)
      refine w_astore rfl rfl ?_
      refine w_aload rfl rfl ?_
      refine w_iload_n rfl rfl ?_
      obtain ⟨g17, H⟩ := H
      refine c_put rfl rfl rfl rfl g17 ?_
      refine w_aload rfl rfl ?_
      refine w_aload_n rfl rfl ?_
      refine c_putr rfl rfl rfl rfl g17 ?_
      refine w_aload rfl rfl ?_
      refine w_aload_n rfl rfl ?_
      refine c_putr rfl rfl rfl rfl g17 ?_
      refine w_aload rfl rfl ?_
      exact w_aret rfl rfl ⟨_, rfl, H⟩
  · replace H := H.2 h
    obtain ⟨g18, H⟩ := H
    refine c_new rfl rfl g18 ?_
    show wk iv L h0 (d + 1) 201 15 [lr a0, li a1, lr a2, lr a3] [vr (nxt s)] (nO s 6) (qa F)
    refine w_dup rfl rfl ?_
    obtain ⟨g19, H⟩ := H
    refine c_spec (p := (nxt s)) (as := []) (r := [vr (nxt s)]) rfl rfl rfl rfl rfl g19 (wc_mono H (Nat.le_refl _) ?_)
    rintro _ s20 ⟨rfl, H⟩
    show wk iv L h0 (d + 1) 201 19 [lr a0, li a1, lr a2, lr a3] [vr (nxt s)] s20 (qa F)
    refine w_astore rfl rfl ?_
    refine w_goto rfl ?_
    refine w_aload rfl rfl ?_
    refine w_iload_n rfl rfl ?_
    obtain ⟨g21, H⟩ := H
    refine c_put rfl rfl rfl rfl g21 ?_
    refine w_aload rfl rfl ?_
    refine w_aload_n rfl rfl ?_
    refine c_putr rfl rfl rfl rfl g21 ?_
    refine w_aload rfl rfl ?_
    refine w_aload_n rfl rfl ?_
    refine c_putr rfl rfl rfl rfl g21 ?_
    refine w_aload rfl rfl ?_
    exact w_aret rfl rfl ⟨_, rfl, H⟩

/-- HoleDesk$Seen.<init>()V -/
theorem C202 {iv : List (Int × Int)} {L : Nat} {h0 : MH} {d : Nat} {s : SC} {a0 : Nat} {F : SC → Prop} (H : (a0 ≠ 2) ∧ (kl s a0 = 7) ∧ F (uR (uR (uI s a0 0 0) a0 1 2) a0 2 2)) : ck iv L h0 d 202 [vr a0] s (qv F) := by
  show wk iv L h0 d 202 0 [lr a0] [] s (qv F)
  refine w_aload_n rfl rfl ?_
  obtain ⟨g1, H⟩ := H
  refine c_oinit rfl rfl g1 ?_
  refine w_aload_n rfl rfl ?_
  refine w_iconst (n := 0) rfl rfl ?_
  obtain ⟨g2, H⟩ := H
  refine c_put rfl rfl rfl rfl g2 ?_
  refine w_aload_n rfl rfl ?_
  refine w_null rfl ?_
  refine c_putr rfl rfl rfl rfl g2 ?_
  refine w_aload_n rfl rfl ?_
  refine w_null rfl ?_
  refine c_putr rfl rfl rfl rfl g2 ?_
  exact w_ret rfl rfl ⟨rfl, H⟩

/-- HoleDesk$Sheet.<init>()V -/
theorem C203 {iv : List (Int × Int)} {L : Nat} {h0 : MH} {d : Nat} {s : SC} {a0 : Nat} {F : SC → Prop} (H : (a0 ≠ 2) ∧ (353 ≤ nxt s) ∧ (kl (nA s 3 60) a0 = 8) ∧ (353 ≤ nxt s + 1) ∧ (kl (nA (nA s 3 60) 4 20) a0 = 8) ∧ ck iv L h0 d 204 [vr a0, vi 0, vi (-9), vi (-9)] (uI (uI (uR (nA (uI (uI (uR (nA s 3 60) a0 0 (nxt s)) a0 3 0) a0 4 0) 4 20) a0 5 (nxt s + 1)) a0 6 0) a0 7 0) (qa fun r7 s6 => (kl s6 a0 = 8) ∧ ck iv L h0 d 206 [vr a0] (uR (uR s6 a0 1 r7) a0 2 (fR (uR s6 a0 1 r7) a0 1)) (qv fun s9 => wk iv L h0 (d + 1) 203 69 [lr a0, li 0] [] s9 (qv F)))) : ck iv L h0 (d + 1) 203 [vr a0] s (qv F) := by
  show wk iv L h0 (d + 1) 203 0 [lr a0] [] s (qv F)
  refine w_aload_n rfl rfl ?_
  obtain ⟨g1, H⟩ := H
  refine c_oinit rfl rfl g1 ?_
  refine w_aload_n rfl rfl ?_
  refine w_bipush (n := 60) rfl rfl rfl ?_
  obtain ⟨g2, H⟩ := H
  refine c_anewa rfl rfl ⟨by decide, by decide⟩ g2 ?_
  show wk iv L h0 (d + 1) 203 10 [lr a0] [vr (nxt s), vr a0] (nA s 3 60) (qv F)
  obtain ⟨g3, H⟩ := H
  refine c_putr rfl rfl rfl rfl g3 ?_
  refine w_aload_n rfl rfl ?_
  refine w_iconst (n := 0) rfl rfl ?_
  refine c_put rfl rfl rfl rfl g3 ?_
  refine w_aload_n rfl rfl ?_
  refine w_iconst (n := 0) rfl rfl ?_
  refine c_put rfl rfl rfl rfl g3 ?_
  refine w_aload_n rfl rfl ?_
  refine w_bipush (n := 20) rfl rfl rfl ?_
  obtain ⟨g4, H⟩ := H
  refine c_anewa rfl rfl ⟨by decide, by decide⟩ g4 ?_
  show wk iv L h0 (d + 1) 203 29 [lr a0] [vr (nxt s + 1), vr a0] (nA (uI (uI (uR (nA s 3 60) a0 0 (nxt s)) a0 3 0) a0 4 0) 4 20) (qv F)
  obtain ⟨g5, H⟩ := H
  refine c_putr rfl rfl rfl rfl g5 ?_
  refine w_aload_n rfl rfl ?_
  refine w_iconst (n := 0) rfl rfl ?_
  refine c_put rfl rfl rfl rfl g5 ?_
  refine w_aload_n rfl rfl ?_
  refine w_iconst (n := 0) rfl rfl ?_
  refine c_put rfl rfl rfl rfl g5 ?_
  refine w_aload_n rfl rfl ?_
  refine w_aload_n rfl rfl ?_
  refine w_iconst (n := 0) rfl rfl ?_
  refine w_bipush (n := (-9)) rfl rfl rfl ?_
  refine w_bipush (n := (-9)) rfl rfl rfl ?_
  refine c_virt (p := a0) (as := [vi 0, vi (-9), vi (-9)]) (r := [vr a0]) rfl rfl rfl rfl rfl rfl g5 (wc_mono H (Nat.le_refl _) ?_)
  rintro _ s6 ⟨r7, rfl, H⟩
  show wk iv L h0 (d + 1) 203 52 [lr a0] [vr r7, vr a0] s6 (qv F)
  obtain ⟨g8, H⟩ := H
  refine c_putr rfl rfl rfl rfl g8 ?_
  refine w_aload_n rfl rfl ?_
  refine w_aload_n rfl rfl ?_
  refine c_getr rfl rfl rfl g8 ?_
  show wk iv L h0 (d + 1) 203 60 [lr a0] [vr (fR (uR s6 a0 1 r7) a0 1), vr a0] (uR s6 a0 1 r7) (qv F)
  refine c_putr rfl rfl rfl rfl g8 ?_
  refine w_aload_n rfl rfl ?_
  refine c_virt (p := a0) (as := []) (r := []) rfl rfl rfl rfl rfl rfl g8 (wc_mono H (Nat.le_refl _) ?_)
  rintro _ s9 ⟨rfl, H⟩
  show wk iv L h0 (d + 1) 203 67 [lr a0] [] s9 (qv F)
  refine w_iconst (n := 0) rfl rfl ?_
  refine w_istore_n rfl rfl ?_
  exact wp_ls (sl_s (sl_s (sl_0))) H

/-- HoleDesk$Sheet.<init>()V at 69 -/
theorem C203_69 {iv : List (Int × Int)} {L : Nat} {h0 : MH} {d : Nat} {s : SC} {l0 : Nat} {l1 : Int} {F : SC → Prop} (H : ((20 ≤ l1 → F s) ∧ (l1 < 20 → (kl s l0 = 8) ∧ (353 ≤ nxt s) ∧ (nxt s ≠ 2) ∧ ck iv L h0 d 221 [vr (nxt s)] (nO s 8) (qv fun s4 => (kl s4 (fR s l0 5) = 104) ∧ (0 ≤ l1 ∧ l1 < le s4 (fR s l0 5)) ∧ (nxt s = 2 ∨ kl s4 (nxt s) = 9) ∧ (-2147483648 ≤ l1 + 1 ∧ l1 + 1 ≤ 2147483647) ∧ wk iv L h0 (d + 1) 203 69 [lr l0, li (l1 + 1)] [] (uB s4 (fR s l0 5) l1 (nxt s)) (qv F))))) : wk iv L h0 (d + 1) 203 69 [lr l0, li l1] [] s (qv F) := by
  refine w_iload_n rfl rfl ?_
  refine w_bipush (n := 20) rfl rfl rfl ?_
  refine w_icmp_ge rfl (fun h => ?_) (fun h => ?_)
  · replace H := H.1 h
    exact w_ret rfl rfl ⟨rfl, H⟩
  · replace H := H.2 h
    refine w_aload_n rfl rfl ?_
    obtain ⟨g1, H⟩ := H
    refine c_getr rfl rfl rfl g1 ?_
    refine w_iload_n rfl rfl ?_
    obtain ⟨g2, H⟩ := H
    refine c_new rfl rfl g2 ?_
    show wk iv L h0 (d + 1) 203 83 [lr l0, li l1] [vr (nxt s), vi l1, vr (fR s l0 5)] (nO s 8) (qv F)
    refine w_dup rfl rfl ?_
    obtain ⟨g3, H⟩ := H
    refine c_spec (p := (nxt s)) (as := []) (r := [vr (nxt s), vi l1, vr (fR s l0 5)]) rfl rfl rfl rfl rfl g3 (wc_mono H (Nat.le_refl _) ?_)
    rintro _ s4 ⟨rfl, H⟩
    show wk iv L h0 (d + 1) 203 87 [lr l0, li l1] [vr (nxt s), vi l1, vr (fR s l0 5)] s4 (qv F)
    obtain ⟨g5, H⟩ := H
    obtain ⟨g6, H⟩ := H
    obtain ⟨g7, H⟩ := H
    refine c_aast rfl rfl g5 g6 (by rcases g7 with e | e; exact Or.inl e; exact Or.inr ⟨e, by decide⟩) ?_
    obtain ⟨g8, H⟩ := H
    refine w_iinc rfl rfl rfl g8 ?_
    refine w_goto rfl ?_
    exact wp_ls (sl_s (sl_s (sl_0))) H

/-- HoleDesk$Sheet.born(III)LHoleDesk$Node; -/
theorem C204 {iv : List (Int × Int)} {L : Nat} {h0 : MH} {d : Nat} {s : SC} {a0 : Nat} {a1 : Int} {a2 : Int} {a3 : Int} {F : Nat → SC → Prop} (H : (353 ≤ nxt s) ∧ (kl (nO s 4) a0 = 8) ∧ (-2147483648 ≤ (fI (nO s 4) a0 4) + 1 ∧ (fI (nO s 4) a0 4) + 1 ≤ 2147483647) ∧ (nxt s ≠ 2) ∧ ck iv L h0 d 186 [vr (nxt s), vi (fI (nO s 4) a0 4), vi a1, vi a2, vi a3] (uI (nO s 4) a0 4 ((fI (nO s 4) a0 4) + 1)) (qv fun s5 => F (nxt s) s5)) : ck iv L h0 (d + 1) 204 [vr a0, vi a1, vi a2, vi a3] s (qa F) := by
  show wk iv L h0 (d + 1) 204 0 [lr a0, li a1, li a2, li a3] [] s (qa F)
  obtain ⟨g1, H⟩ := H
  refine c_new rfl rfl g1 ?_
  show wk iv L h0 (d + 1) 204 3 [lr a0, li a1, li a2, li a3] [vr (nxt s)] (nO s 4) (qa F)
  refine w_dup rfl rfl ?_
  refine w_aload_n rfl rfl ?_
  refine w_dup rfl rfl ?_
  obtain ⟨g2, H⟩ := H
  refine c_get rfl rfl rfl g2 ?_
  show wk iv L h0 (d + 1) 204 9 [lr a0, li a1, li a2, li a3] [vi (fI (nO s 4) a0 4), vr a0, vr (nxt s), vr (nxt s)] (nO s 4) (qa F)
  refine w_dup_x1 rfl rfl rfl ?_
  refine w_iconst (n := 1) rfl rfl ?_
  obtain ⟨g3, H⟩ := H
  refine w_iadd rfl g3 ?_
  refine c_put rfl rfl rfl rfl g2 ?_
  refine w_iload_n rfl rfl ?_
  refine w_iload_n rfl rfl ?_
  refine w_iload_n rfl rfl ?_
  obtain ⟨g4, H⟩ := H
  refine c_spec (p := (nxt s)) (as := [vi (fI (nO s 4) a0 4), vi a1, vi a2, vi a3]) (r := [vr (nxt s)]) rfl rfl rfl rfl rfl g4 (wc_mono H (Nat.le_refl _) ?_)
  rintro _ s5 ⟨rfl, H⟩
  show wk iv L h0 (d + 1) 204 21 [lr a0, li a1, li a2, li a3] [vr (nxt s)] s5 (qa F)
  exact w_aret rfl rfl ⟨_, rfl, H⟩

/-- HoleDesk$Sheet.lacksBirths(I)Z -/
theorem C205 {iv : List (Int × Int)} {L : Nat} {h0 : MH} {d : Nat} {s : SC} {a0 : Nat} {a1 : Int} {F : Int → SC → Prop} (H : (kl s a0 = 8) ∧ (-2147483648 ≤ (fI s a0 4) + a1 ∧ (fI s a0 4) + a1 ≤ 2147483647) ∧ (((fI s a0 4) + a1 ≤ 3000 → F 0 s) ∧ (3000 < (fI s a0 4) + a1 → F 1 s))) : ck iv L h0 d 205 [vr a0, vi a1] s (qi F) := by
  show wk iv L h0 d 205 0 [lr a0, li a1] [] s (qi F)
  refine w_aload_n rfl rfl ?_
  obtain ⟨g1, H⟩ := H
  refine c_get rfl rfl rfl g1 ?_
  refine w_iload_n rfl rfl ?_
  obtain ⟨g2, H⟩ := H
  refine w_iadd rfl g2 ?_
  refine w_sipush (n := 3000) rfl rfl rfl ?_
  refine w_icmp_le rfl (fun h => ?_) (fun h => ?_)
  · replace H := H.1 h
    refine w_iconst (n := 0) rfl rfl ?_
    exact w_iretz rfl rfl (by decide) ⟨_, rfl, H⟩
  · replace H := H.2 h
    refine w_iconst (n := 1) rfl rfl ?_
    refine w_goto rfl ?_
    exact w_iretz rfl rfl (by decide) ⟨_, rfl, H⟩

/-- HoleDesk$Sheet.list()V -/
theorem C206 {iv : List (Int × Int)} {L : Nat} {h0 : MH} {d : Nat} {s : SC} {a0 : Nat} {F : SC → Prop} (H : (kl s a0 = 8) ∧ wk iv L h0 (d + 1) 206 10 [lr a0, lr (fR s a0 1)] [] (uI s a0 3 0) (qv F)) : ck iv L h0 (d + 1) 206 [vr a0] s (qv F) := by
  show wk iv L h0 (d + 1) 206 0 [lr a0] [] s (qv F)
  refine w_aload_n rfl rfl ?_
  refine w_iconst (n := 0) rfl rfl ?_
  obtain ⟨g1, H⟩ := H
  refine c_put rfl rfl rfl rfl g1 ?_
  refine w_aload_n rfl rfl ?_
  refine c_getr rfl rfl rfl g1 ?_
  show wk iv L h0 (d + 1) 206 9 [lr a0] [vr (fR s a0 1)] (uI s a0 3 0) (qv F)
  refine w_astore_n rfl rfl ?_
  exact wp_ls (sl_s (sl_s (sl_0))) H

/-- HoleDesk$Sheet.list()V at 10 -/
theorem C206_10 {iv : List (Int × Int)} {L : Nat} {h0 : MH} {d : Nat} {s : SC} {l0 : Nat} {l1 : Nat} {F : SC → Prop} (H : ((l1 = 2 → F s) ∧ (l1 ≠ 2 → (kl s l0 = 8) ∧ ((60 ≤ fI s l0 3 → F s) ∧ (fI s l0 3 < 60 → (kl s l1 = 5) ∧ (-2147483648 ≤ (fI s l0 3) + 1 ∧ (fI s l0 3) + 1 ≤ 2147483647) ∧ (kl s (fR s l0 0) = 103) ∧ (0 ≤ fI s l0 3 ∧ fI s l0 3 < le s (fR s l0 0)) ∧ (l1 = 2 ∨ kl s l1 = 5) ∧ ck iv L h0 d 192 [vr l1] (uB (uI (uI s l1 7 (fI s l0 3)) l0 3 ((fI s l0 3) + 1)) (fR s l0 0) (fI s l0 3) l1) (qa fun r8 s7 => wk iv L h0 (d + 1) 206 10 [lr l0, lr r8] [] s7 (qv F))))))) : wk iv L h0 (d + 1) 206 10 [lr l0, lr l1] [] s (qv F) := by
  refine w_aload_n rfl rfl ?_
  refine c_null rfl (fun h => ?_) (fun h => ?_)
  · replace H := H.1 h
    exact w_ret rfl rfl ⟨rfl, H⟩
  · replace H := H.2 h
    refine w_aload_n rfl rfl ?_
    obtain ⟨g1, H⟩ := H
    refine c_get rfl rfl rfl g1 ?_
    refine w_bipush (n := 60) rfl rfl rfl ?_
    refine w_icmp_ge rfl (fun h => ?_) (fun h => ?_)
    · replace H := H.1 h
      exact w_ret rfl rfl ⟨rfl, H⟩
    · replace H := H.2 h
      refine w_aload_n rfl rfl ?_
      refine w_aload_n rfl rfl ?_
      refine c_get rfl rfl rfl g1 ?_
      obtain ⟨g2, H⟩ := H
      refine c_put rfl rfl rfl rfl g2 ?_
      refine w_aload_n rfl rfl ?_
      refine c_getr rfl rfl rfl g1 ?_
      show wk iv L h0 (d + 1) 206 35 [lr l0, lr l1] [vr (fR s l0 0)] (uI s l1 7 (fI s l0 3)) (qv F)
      refine w_aload_n rfl rfl ?_
      refine w_dup rfl rfl ?_
      refine c_get rfl rfl rfl g1 ?_
      show wk iv L h0 (d + 1) 206 40 [lr l0, lr l1] [vi (fI s l0 3), vr l0, vr (fR s l0 0)] (uI s l1 7 (fI s l0 3)) (qv F)
      refine w_dup_x1 rfl rfl rfl ?_
      refine w_iconst (n := 1) rfl rfl ?_
      obtain ⟨g3, H⟩ := H
      refine w_iadd rfl g3 ?_
      refine c_put rfl rfl rfl rfl g1 ?_
      refine w_aload_n rfl rfl ?_
      obtain ⟨g4, H⟩ := H
      obtain ⟨g5, H⟩ := H
      obtain ⟨g6, H⟩ := H
      refine c_aast rfl rfl g4 g5 (by rcases g6 with e | e; exact Or.inl e; exact Or.inr ⟨e, by decide⟩) ?_
      refine w_aload_n rfl rfl ?_
      refine c_virt (p := l1) (as := []) (r := []) rfl rfl rfl rfl rfl rfl g2 (wc_mono H (Nat.le_refl _) ?_)
      rintro _ s7 ⟨r8, rfl, H⟩
      show wk iv L h0 (d + 1) 206 52 [lr l0, lr l1] [vr r8] s7 (qv F)
      refine w_astore_n rfl rfl ?_
      refine w_goto rfl ?_
      exact wp_ls (sl_s (sl_s (sl_0))) H

/-- HoleDesk$Sheet.find(I)LHoleDesk$Node; -/
theorem C207 {iv : List (Int × Int)} {L : Nat} {h0 : MH} {d : Nat} {s : SC} {a0 : Nat} {a1 : Int} {F : Nat → SC → Prop} (H : wk iv L h0 d 207 2 [lr a0, li a1, li 0] [] s (qa F)) : ck iv L h0 d 207 [vr a0, vi a1] s (qa F) := by
  show wk iv L h0 d 207 0 [lr a0, li a1] [] s (qa F)
  refine w_iconst (n := 0) rfl rfl ?_
  refine w_istore_n rfl rfl ?_
  exact wp_ls (sl_s (sl_s (sl_s (sl_0)))) H

/-- HoleDesk$Sheet.find(I)LHoleDesk$Node; at 2 -/
theorem C207_2 {iv : List (Int × Int)} {L : Nat} {h0 : MH} {d : Nat} {s : SC} {l0 : Nat} {l1 : Int} {l2 : Int} {F : Nat → SC → Prop} (H : (kl s l0 = 8) ∧ ((fI s l0 3 ≤ l2 → F 2 s) ∧ (l2 < fI s l0 3 → (kl s (fR s l0 0) = 103) ∧ (0 ≤ l2 ∧ l2 < le s (fR s l0 0)) ∧ (kl s (aR s (fR s l0 0) l2) = 5) ∧ ((fI s (aR s (fR s l0 0) l2) 0 ≠ l1 → (-2147483648 ≤ l2 + 1 ∧ l2 + 1 ≤ 2147483647) ∧ wk iv L h0 d 207 2 [lr l0, li l1, li (l2 + 1)] [] s (qa F)) ∧ (fI s (aR s (fR s l0 0) l2) 0 = l1 → F (aR s (fR s l0 0) l2) s))))) : wk iv L h0 d 207 2 [lr l0, li l1, li l2] [] s (qa F) := by
  refine w_iload_n rfl rfl ?_
  refine w_aload_n rfl rfl ?_
  obtain ⟨g1, H⟩ := H
  refine c_get rfl rfl rfl g1 ?_
  refine w_icmp_ge rfl (fun h => ?_) (fun h => ?_)
  · replace H := H.1 h
    refine w_null rfl ?_
    exact w_aret rfl rfl ⟨_, rfl, H⟩
  · replace H := H.2 h
    refine w_aload_n rfl rfl ?_
    refine c_getr rfl rfl rfl g1 ?_
    refine w_iload_n rfl rfl ?_
    obtain ⟨g2, H⟩ := H
    obtain ⟨g3, H⟩ := H
    refine c_aald (t := 3) rfl ⟨g2, by decide, by decide⟩ g3 ?_
    obtain ⟨g4, H⟩ := H
    refine c_get rfl rfl rfl g4 ?_
    refine w_iload_n rfl rfl ?_
    refine w_icmp_ne rfl (fun h => ?_) (fun h => ?_)
    · replace H := H.1 h
      obtain ⟨g5, H⟩ := H
      refine w_iinc rfl rfl rfl g5 ?_
      refine w_goto rfl ?_
      exact wp_ls (sl_s (sl_s (sl_s (sl_0)))) H
    · replace H := H.2 h
      refine w_aload_n rfl rfl ?_
      refine c_getr rfl rfl rfl g1 ?_
      refine w_iload_n rfl rfl ?_
      refine c_aald (t := 3) rfl ⟨g2, by decide, by decide⟩ g3 ?_
      exact w_aret rfl rfl ⟨_, rfl, H⟩

/-- HoleDesk$Sheet.replace(LHoleDesk$Node;LHoleDesk$Node;)V -/
theorem C208 {iv : List (Int × Int)} {L : Nat} {h0 : MH} {d : Nat} {s : SC} {a0 : Nat} {a1 : Nat} {a2 : Nat} {F : SC → Prop} (H : (kl s a1 = 5) ∧ ((fR s a1 5 ≠ 2 → (kl s (fR s a1 5) = 5) ∧ ck iv L h0 d 188 [vr (fR s a1 5), vi (fI s a1 6), vr a2] s (qv fun s3 => F s3)) ∧ (fR s a1 5 = 2 → (kl s a2 = 5) ∧ (kl s a0 = 8) ∧ F (uR (uR s a2 5 2) a0 1 a2)))) : ck iv L h0 (d + 1) 208 [vr a0, vr a1, vr a2] s (qv F) := by
  show wk iv L h0 (d + 1) 208 0 [lr a0, lr a1, lr a2] [] s (qv F)
  refine w_aload_n rfl rfl ?_
  obtain ⟨g1, H⟩ := H
  refine c_getr rfl rfl rfl g1 ?_
  refine w_astore_n rfl rfl ?_
  refine w_aload_n rfl rfl ?_
  refine c_nonnull rfl (fun h => ?_) (fun h => ?_)
  · replace H := H.1 h
    refine w_aload_n rfl rfl ?_
    refine w_aload_n rfl rfl ?_
    refine c_get rfl rfl rfl g1 ?_
    refine w_aload_n rfl rfl ?_
    obtain ⟨g2, H⟩ := H
    refine c_virt (p := (fR s a1 5)) (as := [vi (fI s a1 6), vr a2]) (r := []) rfl rfl rfl rfl rfl rfl g2 (wc_mono H (Nat.le_refl _) ?_)
    rintro _ s3 ⟨rfl, H⟩
    show wk iv L h0 (d + 1) 208 31 [lr a0, lr a1, lr a2, lr (fR s a1 5)] [] s3 (qv F)
    exact w_ret rfl rfl ⟨rfl, H⟩
  · replace H := H.2 h
    refine w_aload_n rfl rfl ?_
    refine w_null rfl ?_
    obtain ⟨g4, H⟩ := H
    refine c_putr rfl rfl rfl rfl g4 ?_
    refine w_aload_n rfl rfl ?_
    refine w_aload_n rfl rfl ?_
    obtain ⟨g5, H⟩ := H
    refine c_putr rfl rfl rfl rfl g5 ?_
    refine w_goto rfl ?_
    exact w_ret rfl rfl ⟨rfl, H⟩

/-- HoleDesk$Sheet.sizeAt(LHoleDesk$Node;)I -/
theorem C209 {iv : List (Int × Int)} {L : Nat} {h0 : MH} {d : Nat} {s : SC} {a0 : Nat} {a1 : Nat} {F : Int → SC → Prop} (H : (kl s a1 = 5) ∧ ck iv L h0 d 191 [vr a1] s (qa fun r3 s2 => ((r3 ≠ 2 → (kl s2 r3 = 5) ∧ (kl s2 a1 = 5) ∧ (-2147483648 ≤ (fI s2 r3 7) - (fI s2 a1 7) ∧ (fI s2 r3 7) - (fI s2 a1 7) ≤ 2147483647) ∧ F ((fI s2 r3 7) - (fI s2 a1 7)) s2) ∧ (r3 = 2 → (kl s2 a0 = 8) ∧ (kl s2 a1 = 5) ∧ (-2147483648 ≤ (fI s2 a0 3) - (fI s2 a1 7) ∧ (fI s2 a0 3) - (fI s2 a1 7) ≤ 2147483647) ∧ F ((fI s2 a0 3) - (fI s2 a1 7)) s2)))) : ck iv L h0 (d + 1) 209 [vr a0, vr a1] s (qi F) := by
  show wk iv L h0 (d + 1) 209 0 [lr a0, lr a1] [] s (qi F)
  refine w_aload_n rfl rfl ?_
  obtain ⟨g1, H⟩ := H
  refine c_virt (p := a1) (as := []) (r := []) rfl rfl rfl rfl rfl rfl g1 (wc_mono H (Nat.le_refl _) ?_)
  rintro _ s2 ⟨r3, rfl, H⟩
  show wk iv L h0 (d + 1) 209 4 [lr a0, lr a1] [vr r3] s2 (qi F)
  refine w_astore_n rfl rfl ?_
  refine w_aload_n rfl rfl ?_
  refine c_nonnull rfl (fun h => ?_) (fun h => ?_)
  · replace H := H.1 h
    refine w_aload_n rfl rfl ?_
    obtain ⟨g4, H⟩ := H
    refine c_get rfl rfl rfl g4 ?_
    refine w_aload_n rfl rfl ?_
    obtain ⟨g5, H⟩ := H
    refine c_get rfl rfl rfl g5 ?_
    obtain ⟨g6, H⟩ := H
    refine w_isub rfl g6 ?_
    exact w_iret rfl rfl ⟨_, rfl, H⟩
  · replace H := H.2 h
    refine w_aload_n rfl rfl ?_
    obtain ⟨g7, H⟩ := H
    refine c_get rfl rfl rfl g7 ?_
    refine w_goto rfl ?_
    refine w_aload_n rfl rfl ?_
    obtain ⟨g8, H⟩ := H
    refine c_get rfl rfl rfl g8 ?_
    obtain ⟨g9, H⟩ := H
    refine w_isub rfl g9 ?_
    exact w_iret rfl rfl ⟨_, rfl, H⟩

/-- HoleDesk$Sheet.isWithin(LHoleDesk$Node;LHoleDesk$Node;)Z -/
theorem C210 {iv : List (Int × Int)} {L : Nat} {h0 : MH} {d : Nat} {s : SC} {a0 : Nat} {a1 : Nat} {a2 : Nat} {F : Int → SC → Prop} (H : (kl s a1 = 5) ∧ (kl s a2 = 5) ∧ ((fI s a1 7 < fI s a2 7 → F 0 s) ∧ (fI s a2 7 ≤ fI s a1 7 → (kl s a0 = 8) ∧ ck iv L h0 d 209 [vr a0, vr a2] s (qi fun r5 s4 => (-2147483648 ≤ (fI s a2 7) + r5 ∧ (fI s a2 7) + r5 ≤ 2147483647) ∧ (((fI s a2 7) + r5 ≤ fI s a1 7 → F 0 s4) ∧ (fI s a1 7 < (fI s a2 7) + r5 → F 1 s4)))))) : ck iv L h0 (d + 1) 210 [vr a0, vr a1, vr a2] s (qi F) := by
  show wk iv L h0 (d + 1) 210 0 [lr a0, lr a1, lr a2] [] s (qi F)
  refine w_aload_n rfl rfl ?_
  obtain ⟨g1, H⟩ := H
  refine c_get rfl rfl rfl g1 ?_
  refine w_aload_n rfl rfl ?_
  obtain ⟨g2, H⟩ := H
  refine c_get rfl rfl rfl g2 ?_
  refine w_icmp_lt rfl (fun h => ?_) (fun h => ?_)
  · replace H := H.1 h
    refine w_iconst (n := 0) rfl rfl ?_
    exact w_iretz rfl rfl (by decide) ⟨_, rfl, H⟩
  · replace H := H.2 h
    refine w_aload_n rfl rfl ?_
    refine c_get rfl rfl rfl g1 ?_
    refine w_aload_n rfl rfl ?_
    refine c_get rfl rfl rfl g2 ?_
    refine w_aload_n rfl rfl ?_
    refine w_aload_n rfl rfl ?_
    obtain ⟨g3, H⟩ := H
    refine c_virt (p := a0) (as := [vr a2]) (r := [vi (fI s a2 7), vi (fI s a1 7)]) rfl rfl rfl rfl rfl rfl g3 (wc_mono H (Nat.le_refl _) ?_)
    rintro _ s4 ⟨r5, rfl, H⟩
    show wk iv L h0 (d + 1) 210 24 [lr a0, lr a1, lr a2] [vi r5, vi (fI s a2 7), vi (fI s a1 7)] s4 (qi F)
    obtain ⟨g6, H⟩ := H
    refine w_iadd rfl g6 ?_
    refine w_icmp_ge rfl (fun h => ?_) (fun h => ?_)
    · replace H := H.1 h
      refine w_iconst (n := 0) rfl rfl ?_
      exact w_iretz rfl rfl (by decide) ⟨_, rfl, H⟩
    · replace H := H.2 h
      refine w_iconst (n := 1) rfl rfl ?_
      refine w_goto rfl ?_
      exact w_iretz rfl rfl (by decide) ⟨_, rfl, H⟩

/-- HoleDesk$Sheet.goal(I)LHoleDesk$Node; -/
theorem C211 {iv : List (Int × Int)} {L : Nat} {h0 : MH} {d : Nat} {s : SC} {a0 : Nat} {a1 : Int} {F : Nat → SC → Prop} (H : (kl s a0 = 8) ∧ (kl s (fR s a0 2) = 5) ∧ ((a1 = 0 → F (fR s (fR s a0 2) 5) s) ∧ (a1 = 1 → ck iv L h0 d 212 [vr a0, vr (fR s a0 2), vi 0] s (qa fun r4 s3 => F r4 s3)) ∧ (a1 = 2 → ((fR s (fR s a0 2) 5 ≠ 2 → (-2147483648 ≤ (fI s (fR s a0 2) 6) + 1 ∧ (fI s (fR s a0 2) 6) + 1 ≤ 2147483647) ∧ ck iv L h0 d 212 [vr a0, vr (fR s (fR s a0 2) 5), vi ((fI s (fR s a0 2) 6) + 1)] s (qa fun r7 s6 => F r7 s6)) ∧ (fR s (fR s a0 2) 5 = 2 → F 2 s))) ∧ (a1 = 3 → ((fR s (fR s a0 2) 5 ≠ 2 → (-2147483648 ≤ (fI s (fR s a0 2) 6) - 1 ∧ (fI s (fR s a0 2) 6) - 1 ≤ 2147483647) ∧ ck iv L h0 d 212 [vr a0, vr (fR s (fR s a0 2) 5), vi ((fI s (fR s a0 2) 6) - 1)] s (qa fun r10 s9 => F r10 s9)) ∧ (fR s (fR s a0 2) 5 = 2 → F 2 s))) ∧ (a1 = 4 → ck iv L h0 d 213 [vr a0, vr (fR s a0 2)] s (qa fun r12 s11 => F r12 s11)) ∧ (a1 < 0 ∨ 4 < a1 → F (fR s a0 1) s))) : ck iv L h0 (d + 1) 211 [vr a0, vi a1] s (qa F) := by
  show wk iv L h0 (d + 1) 211 0 [lr a0, li a1] [] s (qa F)
  refine w_aload_n rfl rfl ?_
  obtain ⟨g1, H⟩ := H
  refine c_getr rfl rfl rfl g1 ?_
  obtain ⟨g2, H⟩ := H
  refine c_getr rfl rfl rfl g2 ?_
  refine w_astore_n rfl rfl ?_
  refine w_iload_n rfl rfl ?_
  have J44 : (a1 = 0) → wk iv L h0 (d + 1) 211 44 [lr a0, li a1, lr (fR s (fR s a0 2) 5)] [] s (qa F) := fun h => by
    replace H := H.1 h
    refine w_aload_n rfl rfl ?_
    exact w_aret rfl rfl ⟨_, rfl, H⟩
  have J46 : (a1 = 1) → wk iv L h0 (d + 1) 211 46 [lr a0, li a1, lr (fR s (fR s a0 2) 5)] [] s (qa F) := fun h => by
    replace H := H.2.1 h
    refine w_aload_n rfl rfl ?_
    refine w_aload_n rfl rfl ?_
    refine c_getr rfl rfl rfl g1 ?_
    refine w_iconst (n := 0) rfl rfl ?_
    refine c_virt (p := a0) (as := [vr (fR s a0 2), vi 0]) (r := []) rfl rfl rfl rfl rfl rfl g1 (wc_mono H (Nat.le_refl _) ?_)
    rintro _ s3 ⟨r4, rfl, H⟩
    show wk iv L h0 (d + 1) 211 55 [lr a0, li a1, lr (fR s (fR s a0 2) 5)] [vr r4] s3 (qa F)
    exact w_aret rfl rfl ⟨_, rfl, H⟩
  have J56 : (a1 = 2) → wk iv L h0 (d + 1) 211 56 [lr a0, li a1, lr (fR s (fR s a0 2) 5)] [] s (qa F) := fun h => by
    replace H := H.2.2.1 h
    refine w_aload_n rfl rfl ?_
    refine c_nonnull rfl (fun h => ?_) (fun h => ?_)
    · replace H := H.1 h
      refine w_aload_n rfl rfl ?_
      refine w_aload_n rfl rfl ?_
      refine w_aload_n rfl rfl ?_
      refine c_getr rfl rfl rfl g1 ?_
      refine c_get rfl rfl rfl g2 ?_
      refine w_iconst (n := 1) rfl rfl ?_
      obtain ⟨g5, H⟩ := H
      refine w_iadd rfl g5 ?_
      refine c_virt (p := a0) (as := [vr (fR s (fR s a0 2) 5), vi ((fI s (fR s a0 2) 6) + 1)]) (r := []) rfl rfl rfl rfl rfl rfl g1 (wc_mono H (Nat.le_refl _) ?_)
      rintro _ s6 ⟨r7, rfl, H⟩
      show wk iv L h0 (d + 1) 211 78 [lr a0, li a1, lr (fR s (fR s a0 2) 5)] [vr r7] s6 (qa F)
      exact w_aret rfl rfl ⟨_, rfl, H⟩
    · replace H := H.2 h
      refine w_null rfl ?_
      refine w_goto rfl ?_
      exact w_aret rfl rfl ⟨_, rfl, H⟩
  have J79 : (a1 = 3) → wk iv L h0 (d + 1) 211 79 [lr a0, li a1, lr (fR s (fR s a0 2) 5)] [] s (qa F) := fun h => by
    replace H := H.2.2.2.1 h
    refine w_aload_n rfl rfl ?_
    refine c_nonnull rfl (fun h => ?_) (fun h => ?_)
    · replace H := H.1 h
      refine w_aload_n rfl rfl ?_
      refine w_aload_n rfl rfl ?_
      refine w_aload_n rfl rfl ?_
      refine c_getr rfl rfl rfl g1 ?_
      refine c_get rfl rfl rfl g2 ?_
      refine w_iconst (n := 1) rfl rfl ?_
      obtain ⟨g8, H⟩ := H
      refine w_isub rfl g8 ?_
      refine c_virt (p := a0) (as := [vr (fR s (fR s a0 2) 5), vi ((fI s (fR s a0 2) 6) - 1)]) (r := []) rfl rfl rfl rfl rfl rfl g1 (wc_mono H (Nat.le_refl _) ?_)
      rintro _ s9 ⟨r10, rfl, H⟩
      show wk iv L h0 (d + 1) 211 101 [lr a0, li a1, lr (fR s (fR s a0 2) 5)] [vr r10] s9 (qa F)
      exact w_aret rfl rfl ⟨_, rfl, H⟩
    · replace H := H.2 h
      refine w_null rfl ?_
      refine w_goto rfl ?_
      exact w_aret rfl rfl ⟨_, rfl, H⟩
  have J102 : (a1 = 4) → wk iv L h0 (d + 1) 211 102 [lr a0, li a1, lr (fR s (fR s a0 2) 5)] [] s (qa F) := fun h => by
    replace H := H.2.2.2.2.1 h
    refine w_aload_n rfl rfl ?_
    refine w_aload_n rfl rfl ?_
    refine c_getr rfl rfl rfl g1 ?_
    refine c_virt (p := a0) (as := [vr (fR s a0 2)]) (r := []) rfl rfl rfl rfl rfl rfl g1 (wc_mono H (Nat.le_refl _) ?_)
    rintro _ s11 ⟨r12, rfl, H⟩
    show wk iv L h0 (d + 1) 211 110 [lr a0, li a1, lr (fR s (fR s a0 2) 5)] [vr r12] s11 (qa F)
    exact w_aret rfl rfl ⟨_, rfl, H⟩
  have J111 : (a1 < 0 ∨ 4 < a1) → wk iv L h0 (d + 1) 211 111 [lr a0, li a1, lr (fR s (fR s a0 2) 5)] [] s (qa F) := fun h => by
    replace H := H.2.2.2.2.2 h
    refine w_aload_n rfl rfl ?_
    refine c_getr rfl rfl rfl g1 ?_
    exact w_aret rfl rfl ⟨_, rfl, H⟩
  refine w_tsw (td := 111) (ts := [44, 46, 56, 79, 102]) rfl rfl rfl rfl rfl rfl (fun h => J111 (by omega)) ?_
  exact swA_c (fun h => J44 (by omega)) (swA_c (fun h => J46 (by omega)) (swA_c (fun h => J56 (by omega)) (swA_c (fun h => J79 (by omega)) (swA_c (fun h => J102 (by omega)) (swA_n)))))

/-- HoleDesk$Sheet.partOf(LHoleDesk$Node;I)LHoleDesk$Node; -/
theorem C212 {iv : List (Int × Int)} {L : Nat} {h0 : MH} {d : Nat} {s : SC} {a0 : Nat} {a1 : Nat} {a2 : Int} {F : Nat → SC → Prop} (H : (kl s a1 = 5) ∧ ck iv L h0 d 187 [vr a1, vi a2] s (qi fun r3 s2 => ((r3 = 0 → F 2 s2) ∧ (r3 ≠ 0 → (kl s2 a1 = 5) ∧ (kl s2 (fR s2 a1 3) = 103) ∧ (0 ≤ a2 ∧ a2 < le s2 (fR s2 a1 3)) ∧ F (aR s2 (fR s2 a1 3) a2) s2)))) : ck iv L h0 (d + 1) 212 [vr a0, vr a1, vi a2] s (qa F) := by
  show wk iv L h0 (d + 1) 212 0 [lr a0, lr a1, li a2] [] s (qa F)
  refine w_aload_n rfl rfl ?_
  refine w_iload_n rfl rfl ?_
  obtain ⟨g1, H⟩ := H
  refine c_virt (p := a1) (as := [vi a2]) (r := []) rfl rfl rfl rfl rfl rfl g1 (wc_mono H (Nat.le_refl _) ?_)
  rintro _ s2 ⟨r3, rfl, H⟩
  show wk iv L h0 (d + 1) 212 5 [lr a0, lr a1, li a2] [vi r3] s2 (qa F)
  refine w_if_eq rfl (fun h => ?_) (fun h => ?_)
  · replace H := H.1 h
    refine w_null rfl ?_
    exact w_aret rfl rfl ⟨_, rfl, H⟩
  · replace H := H.2 h
    refine w_aload_n rfl rfl ?_
    obtain ⟨g4, H⟩ := H
    refine c_getr rfl rfl rfl g4 ?_
    refine w_iload_n rfl rfl ?_
    obtain ⟨g5, H⟩ := H
    obtain ⟨g6, H⟩ := H
    refine c_aald (t := 3) rfl ⟨g5, by decide, by decide⟩ g6 ?_
    refine w_goto rfl ?_
    exact w_aret rfl rfl ⟨_, rfl, H⟩

/-- HoleDesk$Sheet.holeBehind(LHoleDesk$Node;)LHoleDesk$Node; -/
theorem C213 {iv : List (Int × Int)} {L : Nat} {h0 : MH} {d : Nat} {s : SC} {a0 : Nat} {a1 : Nat} {F : Nat → SC → Prop} (H : (kl s a1 = 5) ∧ (-2147483648 ≤ (fI s a1 7) + 1 ∧ (fI s a1 7) + 1 ≤ 2147483647) ∧ wk iv L h0 d 213 7 [lr a0, ln, li ((fI s a1 7) + 1)] [] s (qa F)) : ck iv L h0 d 213 [vr a0, vr a1] s (qa F) := by
  show wk iv L h0 d 213 0 [lr a0, lr a1] [] s (qa F)
  refine w_aload_n rfl rfl ?_
  obtain ⟨g1, H⟩ := H
  refine c_get rfl rfl rfl g1 ?_
  refine w_iconst (n := 1) rfl rfl ?_
  obtain ⟨g2, H⟩ := H
  refine w_iadd rfl g2 ?_
  refine w_istore_n rfl rfl ?_
  exact wp_ls (sl_s (sl_n (sl_s (sl_0)))) H

/-- HoleDesk$Sheet.holeBehind(LHoleDesk$Node;)LHoleDesk$Node; at 7 -/
theorem C213_7 {iv : List (Int × Int)} {L : Nat} {h0 : MH} {d : Nat} {s : SC} {l0 : Nat} {l2 : Int} {F : Nat → SC → Prop} (H : (kl s l0 = 8) ∧ ((fI s l0 3 ≤ l2 → F 2 s) ∧ (l2 < fI s l0 3 → (kl s (fR s l0 0) = 103) ∧ (0 ≤ l2 ∧ l2 < le s (fR s l0 0)) ∧ (kl s (aR s (fR s l0 0) l2) = 5) ∧ ((fI s (aR s (fR s l0 0) l2) 1 ≠ 0 → (-2147483648 ≤ l2 + 1 ∧ l2 + 1 ≤ 2147483647) ∧ wk iv L h0 d 213 7 [lr l0, ln, li (l2 + 1)] [] s (qa F)) ∧ (fI s (aR s (fR s l0 0) l2) 1 = 0 → F (aR s (fR s l0 0) l2) s))))) : wk iv L h0 d 213 7 [lr l0, ln, li l2] [] s (qa F) := by
  refine w_iload_n rfl rfl ?_
  refine w_aload_n rfl rfl ?_
  obtain ⟨g1, H⟩ := H
  refine c_get rfl rfl rfl g1 ?_
  refine w_icmp_ge rfl (fun h => ?_) (fun h => ?_)
  · replace H := H.1 h
    refine w_null rfl ?_
    exact w_aret rfl rfl ⟨_, rfl, H⟩
  · replace H := H.2 h
    refine w_aload_n rfl rfl ?_
    refine c_getr rfl rfl rfl g1 ?_
    refine w_iload_n rfl rfl ?_
    obtain ⟨g2, H⟩ := H
    obtain ⟨g3, H⟩ := H
    refine c_aald (t := 3) rfl ⟨g2, by decide, by decide⟩ g3 ?_
    obtain ⟨g4, H⟩ := H
    refine c_get rfl rfl rfl g4 ?_
    refine w_if_ne rfl (fun h => ?_) (fun h => ?_)
    · replace H := H.1 h
      obtain ⟨g5, H⟩ := H
      refine w_iinc rfl rfl rfl g5 ?_
      refine w_goto rfl ?_
      exact wp_ls (sl_s (sl_n (sl_s (sl_0)))) H
    · replace H := H.2 h
      refine w_aload_n rfl rfl ?_
      refine c_getr rfl rfl rfl g1 ?_
      refine w_iload_n rfl rfl ?_
      refine c_aald (t := 3) rfl ⟨g2, by decide, by decide⟩ g3 ?_
      exact w_aret rfl rfl ⟨_, rfl, H⟩

/-- HoleDesk$Sheet.renamingCatches(LHoleDesk$Node;I)Z -/
theorem C214 {iv : List (Int × Int)} {L : Nat} {h0 : MH} {d : Nat} {s : SC} {a0 : Nat} {a1 : Nat} {a2 : Int} {F : Int → SC → Prop} (H : wk iv L h0 (d + 1) 214 2 [lr a0, lr a1, li a2, li 0] [] s (qi F)) : ck iv L h0 (d + 1) 214 [vr a0, vr a1, vi a2] s (qi F) := by
  show wk iv L h0 (d + 1) 214 0 [lr a0, lr a1, li a2] [] s (qi F)
  refine w_iconst (n := 0) rfl rfl ?_
  refine w_istore_n rfl rfl ?_
  exact wp_ls (sl_s (sl_s (sl_s (sl_s (sl_0))))) H

/-- HoleDesk$Sheet.renamingCatches(LHoleDesk$Node;I)Z at 2 -/
theorem C214_2 {iv : List (Int × Int)} {L : Nat} {h0 : MH} {d : Nat} {s : SC} {l0 : Nat} {l1 : Nat} {l2 : Int} {l3 : Int} {F : Int → SC → Prop} (H : (kl s l0 = 8) ∧ ((fI s l0 3 ≤ l3 → F 0 s) ∧ (l3 < fI s l0 3 → (kl s (fR s l0 0) = 103) ∧ (0 ≤ l3 ∧ l3 < le s (fR s l0 0)) ∧ (kl s (aR s (fR s l0 0) l3) = 5) ∧ ((fI s (aR s (fR s l0 0) l3) 1 ≠ 3 → (-2147483648 ≤ l3 + 1 ∧ l3 + 1 ≤ 2147483647) ∧ wk iv L h0 (d + 1) 214 2 [lr l0, lr l1, li l2, li (l3 + 1)] [] s (qi F)) ∧ (fI s (aR s (fR s l0 0) l3) 1 = 3 → ck iv L h0 d 56 [vr (aR s (fR s l0 0) l3), vi (fI s (aR s (fR s l0 0) l3) 4), vr 2, vi (-9)] s (qa fun r7 s6 => (r7 = 2 ∨ 64 ≤ r7) ∧ (l1 = 2 ∨ 64 ≤ l1) ∧ ((r7 ≠ l1 → (kl s6 (aR s (fR s l0 0) l3) = 5) ∧ ck iv L h0 d 56 [vr (aR s (fR s l0 0) l3), vi (fI s6 (aR s (fR s l0 0) l3) 4), vr l1, vi l2] s6 (qa fun r12 s11 => (r12 = 2 ∨ 64 ≤ r12) ∧ ((r12 = r7 → (-2147483648 ≤ l3 + 1 ∧ l3 + 1 ≤ 2147483647) ∧ wk iv L h0 (d + 1) 214 2 [lr l0, lr l1, li l2, li (l3 + 1)] [] s11 (qi F)) ∧ (r12 ≠ r7 → F 1 s11)))) ∧ (r7 = l1 → ck iv L h0 d 56 [vr (aR s (fR s l0 0) l3), vi l2, vr l1, vi l2] s6 (qa fun r16 s15 => (r16 = 2 ∨ 64 ≤ r16) ∧ ((r16 = r7 → (-2147483648 ≤ l3 + 1 ∧ l3 + 1 ≤ 2147483647) ∧ wk iv L h0 (d + 1) 214 2 [lr l0, lr l1, li l2, li (l3 + 1)] [] s15 (qi F)) ∧ (r16 ≠ r7 → F 1 s15))))))))))) : wk iv L h0 (d + 1) 214 2 [lr l0, lr l1, li l2, li l3] [] s (qi F) := by
  refine w_iload_n rfl rfl ?_
  refine w_aload_n rfl rfl ?_
  obtain ⟨g1, H⟩ := H
  refine c_get rfl rfl rfl g1 ?_
  refine w_icmp_ge rfl (fun h => ?_) (fun h => ?_)
  · replace H := H.1 h
    refine w_iconst (n := 0) rfl rfl ?_
    exact w_iretz rfl rfl (by decide) ⟨_, rfl, H⟩
  · replace H := H.2 h
    refine w_aload_n rfl rfl ?_
    refine c_getr rfl rfl rfl g1 ?_
    refine w_iload_n rfl rfl ?_
    obtain ⟨g2, H⟩ := H
    obtain ⟨g3, H⟩ := H
    refine c_aald (t := 3) rfl ⟨g2, by decide, by decide⟩ g3 ?_
    refine w_astore rfl rfl ?_
    refine w_aload rfl rfl ?_
    obtain ⟨g4, H⟩ := H
    refine c_get rfl rfl rfl g4 ?_
    refine w_iconst (n := 3) rfl rfl ?_
    refine w_icmp_ne rfl (fun h => ?_) (fun h => ?_)
    · replace H := H.1 h
      obtain ⟨g5, H⟩ := H
      refine w_iinc rfl rfl rfl g5 ?_
      refine w_goto rfl ?_
      exact wp_ls (sl_s (sl_s (sl_s (sl_s (sl_0))))) H
    · replace H := H.2 h
      refine w_aload rfl rfl ?_
      refine w_aload rfl rfl ?_
      refine c_get rfl rfl rfl g4 ?_
      refine w_null rfl ?_
      refine w_bipush (n := (-9)) rfl rfl rfl ?_
      refine w_static (as := [vr (aR s (fR s l0 0) l3), vi (fI s (aR s (fR s l0 0) l3) 4), vr 2, vi (-9)]) (r := []) rfl rfl rfl rfl rfl (wc_mono H (Nat.le_refl _) ?_)
      rintro _ s6 ⟨r7, rfl, H⟩
      show wk iv L h0 (d + 1) 214 40 [lr l0, lr l1, li l2, li l3, lr (aR s (fR s l0 0) l3)] [vr r7] s6 (qi F)
      refine w_astore rfl rfl ?_
      refine w_aload rfl rfl ?_
      refine w_aload_n rfl rfl ?_
      obtain ⟨g8, H⟩ := H
      obtain ⟨g9, H⟩ := H
      refine c_acmp_ne rfl g8 g9 (fun h => ?_) (fun h => ?_)
      · replace H := H.1 h
        refine w_aload rfl rfl ?_
        obtain ⟨g10, H⟩ := H
        refine c_get rfl rfl rfl g10 ?_
        refine w_istore rfl rfl ?_
        refine w_aload rfl rfl ?_
        refine w_iload rfl rfl ?_
        refine w_aload_n rfl rfl ?_
        refine w_iload_n rfl rfl ?_
        refine w_static (as := [vr (aR s (fR s l0 0) l3), vi (fI s6 (aR s (fR s l0 0) l3) 4), vr l1, vi l2]) (r := []) rfl rfl rfl rfl rfl (wc_mono H (Nat.le_refl _) ?_)
        rintro _ s11 ⟨r12, rfl, H⟩
        show wk iv L h0 (d + 1) 214 68 [lr l0, lr l1, li l2, li l3, lr (aR s (fR s l0 0) l3), lr r7, li (fI s6 (aR s (fR s l0 0) l3) 4)] [vr r12] s11 (qi F)
        refine w_aload rfl rfl ?_
        obtain ⟨g13, H⟩ := H
        refine c_acmp_eq rfl g13 g8 (fun h => ?_) (fun h => ?_)
        · replace H := H.1 h
          obtain ⟨g14, H⟩ := H
          refine w_iinc rfl rfl rfl g14 ?_
          refine w_goto rfl ?_
          exact wp_ls (sl_s (sl_s (sl_s (sl_s (sl_0))))) H
        · replace H := H.2 h
          refine w_iconst (n := 1) rfl rfl ?_
          exact w_iretz rfl rfl (by decide) ⟨_, rfl, H⟩
      · replace H := H.2 h
        refine w_iload_n rfl rfl ?_
        refine w_goto rfl ?_
        refine w_istore rfl rfl ?_
        refine w_aload rfl rfl ?_
        refine w_iload rfl rfl ?_
        refine w_aload_n rfl rfl ?_
        refine w_iload_n rfl rfl ?_
        refine w_static (as := [vr (aR s (fR s l0 0) l3), vi l2, vr l1, vi l2]) (r := []) rfl rfl rfl rfl rfl (wc_mono H (Nat.le_refl _) ?_)
        rintro _ s15 ⟨r16, rfl, H⟩
        show wk iv L h0 (d + 1) 214 68 [lr l0, lr l1, li l2, li l3, lr (aR s (fR s l0 0) l3), lr r7, li l2] [vr r16] s15 (qi F)
        refine w_aload rfl rfl ?_
        obtain ⟨g17, H⟩ := H
        refine c_acmp_eq rfl g17 g8 (fun h => ?_) (fun h => ?_)
        · replace H := H.1 h
          obtain ⟨g18, H⟩ := H
          refine w_iinc rfl rfl rfl g18 ?_
          refine w_goto rfl ?_
          exact wp_ls (sl_s (sl_s (sl_s (sl_s (sl_0))))) H
        · replace H := H.2 h
          refine w_iconst (n := 1) rfl rfl ?_
          exact w_iretz rfl rfl (by decide) ⟨_, rfl, H⟩

/-- HoleDesk$Sheet.renameAll(LHoleDesk$Node;I)I -/
theorem C215 {iv : List (Int × Int)} {L : Nat} {h0 : MH} {d : Nat} {s : SC} {a0 : Nat} {a1 : Nat} {a2 : Int} {F : Int → SC → Prop} (H : wk iv L h0 (d + 1) 215 5 [lr a0, lr a1, li a2, li 0, li 0] [] s (qi F)) : ck iv L h0 (d + 1) 215 [vr a0, vr a1, vi a2] s (qi F) := by
  show wk iv L h0 (d + 1) 215 0 [lr a0, lr a1, li a2] [] s (qi F)
  refine w_iconst (n := 0) rfl rfl ?_
  refine w_istore_n rfl rfl ?_
  refine w_iconst (n := 0) rfl rfl ?_
  refine w_istore rfl rfl ?_
  exact wp_ls (sl_s (sl_s (sl_s (sl_s (sl_s (sl_0)))))) H

/-- HoleDesk$Sheet.renameAll(LHoleDesk$Node;I)I at 5 -/
theorem C215_5 {iv : List (Int × Int)} {L : Nat} {h0 : MH} {d : Nat} {s : SC} {l0 : Nat} {l1 : Nat} {l2 : Int} {l3 : Int} {l4 : Int} {F : Int → SC → Prop} (H : (kl s l0 = 8) ∧ ((fI s l0 3 ≤ l4 → (kl s l1 = 5) ∧ F l3 (uI s l1 4 l2)) ∧ (l4 < fI s l0 3 → (kl s (fR s l0 0) = 103) ∧ (0 ≤ l4 ∧ l4 < le s (fR s l0 0)) ∧ (kl s (aR s (fR s l0 0) l4) = 5) ∧ ((fI s (aR s (fR s l0 0) l4) 1 ≠ 3 → (-2147483648 ≤ l4 + 1 ∧ l4 + 1 ≤ 2147483647) ∧ wk iv L h0 (d + 1) 215 5 [lr l0, lr l1, li l2, li l3, li (l4 + 1)] [] s (qi F)) ∧ (fI s (aR s (fR s l0 0) l4) 1 = 3 → ck iv L h0 d 56 [vr (aR s (fR s l0 0) l4), vi (fI s (aR s (fR s l0 0) l4) 4), vr 2, vi (-9)] s (qa fun r8 s7 => (r8 = 2 ∨ 64 ≤ r8) ∧ (l1 = 2 ∨ 64 ≤ l1) ∧ ((r8 ≠ l1 → (-2147483648 ≤ l4 + 1 ∧ l4 + 1 ≤ 2147483647) ∧ wk iv L h0 (d + 1) 215 5 [lr l0, lr l1, li l2, li l3, li (l4 + 1)] [] s7 (qi F)) ∧ (r8 = l1 → (-2147483648 ≤ l3 + 1 ∧ l3 + 1 ≤ 2147483647) ∧ (kl s7 (aR s (fR s l0 0) l4) = 5) ∧ (-2147483648 ≤ l4 + 1 ∧ l4 + 1 ≤ 2147483647) ∧ wk iv L h0 (d + 1) 215 5 [lr l0, lr l1, li l2, li (l3 + 1), li (l4 + 1)] [] (uI s7 (aR s (fR s l0 0) l4) 4 l2) (qi F))))))))) : wk iv L h0 (d + 1) 215 5 [lr l0, lr l1, li l2, li l3, li l4] [] s (qi F) := by
  refine w_iload rfl rfl ?_
  refine w_aload_n rfl rfl ?_
  obtain ⟨g1, H⟩ := H
  refine c_get rfl rfl rfl g1 ?_
  refine w_icmp_ge rfl (fun h => ?_) (fun h => ?_)
  · replace H := H.1 h
    refine w_aload_n rfl rfl ?_
    refine w_iload_n rfl rfl ?_
    obtain ⟨g2, H⟩ := H
    refine c_put rfl rfl rfl rfl g2 ?_
    refine w_iload_n rfl rfl ?_
    exact w_iret rfl rfl ⟨_, rfl, H⟩
  · replace H := H.2 h
    refine w_aload_n rfl rfl ?_
    refine c_getr rfl rfl rfl g1 ?_
    refine w_iload rfl rfl ?_
    obtain ⟨g3, H⟩ := H
    obtain ⟨g4, H⟩ := H
    refine c_aald (t := 3) rfl ⟨g3, by decide, by decide⟩ g4 ?_
    refine w_astore rfl rfl ?_
    refine w_aload rfl rfl ?_
    obtain ⟨g5, H⟩ := H
    refine c_get rfl rfl rfl g5 ?_
    refine w_iconst (n := 3) rfl rfl ?_
    refine w_icmp_ne rfl (fun h => ?_) (fun h => ?_)
    · replace H := H.1 h
      obtain ⟨g6, H⟩ := H
      refine w_iinc rfl rfl rfl g6 ?_
      refine w_goto rfl ?_
      exact wp_ls (sl_s (sl_s (sl_s (sl_s (sl_s (sl_0)))))) H
    · replace H := H.2 h
      refine w_aload rfl rfl ?_
      refine w_aload rfl rfl ?_
      refine c_get rfl rfl rfl g5 ?_
      refine w_null rfl ?_
      refine w_bipush (n := (-9)) rfl rfl rfl ?_
      refine w_static (as := [vr (aR s (fR s l0 0) l4), vi (fI s (aR s (fR s l0 0) l4) 4), vr 2, vi (-9)]) (r := []) rfl rfl rfl rfl rfl (wc_mono H (Nat.le_refl _) ?_)
      rintro _ s7 ⟨r8, rfl, H⟩
      show wk iv L h0 (d + 1) 215 45 [lr l0, lr l1, li l2, li l3, li l4, lr (aR s (fR s l0 0) l4)] [vr r8] s7 (qi F)
      refine w_aload_n rfl rfl ?_
      obtain ⟨g9, H⟩ := H
      obtain ⟨g10, H⟩ := H
      refine c_acmp_ne rfl g9 g10 (fun h => ?_) (fun h => ?_)
      · replace H := H.1 h
        obtain ⟨g11, H⟩ := H
        refine w_iinc rfl rfl rfl g11 ?_
        refine w_goto rfl ?_
        exact wp_ls (sl_s (sl_s (sl_s (sl_s (sl_s (sl_0)))))) H
      · replace H := H.2 h
        obtain ⟨g12, H⟩ := H
        refine w_iinc rfl rfl rfl g12 ?_
        refine w_aload rfl rfl ?_
        refine w_iload_n rfl rfl ?_
        obtain ⟨g13, H⟩ := H
        refine c_put rfl rfl rfl rfl g13 ?_
        obtain ⟨g14, H⟩ := H
        refine w_iinc rfl rfl rfl g14 ?_
        refine w_goto rfl ?_
        exact wp_ls (sl_s (sl_s (sl_s (sl_s (sl_s (sl_0)))))) H

/-- HoleDesk$Sheet.movingCatches(LHoleDesk$Node;LHoleDesk$Node;)Z -/
theorem C216 {iv : List (Int × Int)} {L : Nat} {h0 : MH} {d : Nat} {s : SC} {a0 : Nat} {a1 : Nat} {a2 : Nat} {F : Int → SC → Prop} (H : (kl s a1 = 5) ∧ (kl s a0 = 8) ∧ ck iv L h0 d 209 [vr a0, vr a1] s (qi fun r4 s3 => (-2147483648 ≤ (fI s a1 7) + r4 ∧ (fI s a1 7) + r4 ≤ 2147483647) ∧ (kl s3 a1 = 5) ∧ wk iv L h0 (d + 1) 216 17 [lr a0, lr a1, lr a2, li ((fI s a1 7) + r4), li (fI s3 a1 7)] [] s3 (qi F))) : ck iv L h0 (d + 1) 216 [vr a0, vr a1, vr a2] s (qi F) := by
  show wk iv L h0 (d + 1) 216 0 [lr a0, lr a1, lr a2] [] s (qi F)
  refine w_aload_n rfl rfl ?_
  obtain ⟨g1, H⟩ := H
  refine c_get rfl rfl rfl g1 ?_
  refine w_aload_n rfl rfl ?_
  refine w_aload_n rfl rfl ?_
  obtain ⟨g2, H⟩ := H
  refine c_virt (p := a0) (as := [vr a1]) (r := [vi (fI s a1 7)]) rfl rfl rfl rfl rfl rfl g2 (wc_mono H (Nat.le_refl _) ?_)
  rintro _ s3 ⟨r4, rfl, H⟩
  show wk iv L h0 (d + 1) 216 9 [lr a0, lr a1, lr a2] [vi r4, vi (fI s a1 7)] s3 (qi F)
  obtain ⟨g5, H⟩ := H
  refine w_iadd rfl g5 ?_
  refine w_istore_n rfl rfl ?_
  refine w_aload_n rfl rfl ?_
  obtain ⟨g6, H⟩ := H
  refine c_get rfl rfl rfl g6 ?_
  refine w_istore rfl rfl ?_
  exact wp_ls (sl_s (sl_s (sl_s (sl_s (sl_s (sl_0)))))) H

/-- HoleDesk$Sheet.movingCatches(LHoleDesk$Node;LHoleDesk$Node;)Z at 17 -/
theorem C216_17 {iv : List (Int × Int)} {L : Nat} {h0 : MH} {d : Nat} {s : SC} {l0 : Nat} {l1 : Nat} {l2 : Nat} {l3 : Int} {l4 : Int} {F : Int → SC → Prop} (H : ((l3 ≤ l4 → F 0 s) ∧ (l4 < l3 → (kl s l0 = 8) ∧ ((fI s l0 3 ≤ l4 → F 0 s) ∧ (l4 < fI s l0 3 → (kl s (fR s l0 0) = 103) ∧ (0 ≤ l4 ∧ l4 < le s (fR s l0 0)) ∧ (kl s (aR s (fR s l0 0) l4) = 5) ∧ ((fI s (aR s (fR s l0 0) l4) 1 ≠ 3 → (-2147483648 ≤ l4 + 1 ∧ l4 + 1 ≤ 2147483647) ∧ wk iv L h0 (d + 1) 216 17 [lr l0, lr l1, lr l2, li l3, li (l4 + 1)] [] s (qi F)) ∧ (fI s (aR s (fR s l0 0) l4) 1 = 3 → ck iv L h0 d 56 [vr (aR s (fR s l0 0) l4), vi (fI s (aR s (fR s l0 0) l4) 4), vr 2, vi (-9)] s (qa fun r7 s6 => ((r7 = 2 → (kl s6 (aR s (fR s l0 0) l4) = 5) ∧ ck iv L h0 d 56 [vr l2, vi (fI s6 (aR s (fR s l0 0) l4) 4), vr 2, vi (-9)] s6 (qa fun r10 s9 => (r10 = 2 ∨ 64 ≤ r10) ∧ (r7 = 2 ∨ 64 ≤ r7) ∧ ((r10 = r7 → (-2147483648 ≤ l4 + 1 ∧ l4 + 1 ≤ 2147483647) ∧ wk iv L h0 (d + 1) 216 17 [lr l0, lr l1, lr l2, li l3, li (l4 + 1)] [] s9 (qi F)) ∧ (r10 ≠ r7 → F 1 s9)))) ∧ (r7 ≠ 2 → (kl s6 l0 = 8) ∧ ck iv L h0 d 210 [vr l0, vr r7, vr l1] s6 (qi fun r16 s15 => ((r16 ≠ 0 → (-2147483648 ≤ l4 + 1 ∧ l4 + 1 ≤ 2147483647) ∧ wk iv L h0 (d + 1) 216 17 [lr l0, lr l1, lr l2, li l3, li (l4 + 1)] [] s15 (qi F)) ∧ (r16 = 0 → (kl s15 (aR s (fR s l0 0) l4) = 5) ∧ ck iv L h0 d 56 [vr l2, vi (fI s15 (aR s (fR s l0 0) l4) 4), vr 2, vi (-9)] s15 (qa fun r20 s19 => (r20 = 2 ∨ 64 ≤ r20) ∧ (r7 = 2 ∨ 64 ≤ r7) ∧ ((r20 = r7 → (-2147483648 ≤ l4 + 1 ∧ l4 + 1 ≤ 2147483647) ∧ wk iv L h0 (d + 1) 216 17 [lr l0, lr l1, lr l2, li l3, li (l4 + 1)] [] s19 (qi F)) ∧ (r20 ≠ r7 → F 1 s19)))))))))))))))) : wk iv L h0 (d + 1) 216 17 [lr l0, lr l1, lr l2, li l3, li l4] [] s (qi F) := by
  refine w_iload rfl rfl ?_
  refine w_iload_n rfl rfl ?_
  refine w_icmp_ge rfl (fun h => ?_) (fun h => ?_)
  · replace H := H.1 h
    refine w_iconst (n := 0) rfl rfl ?_
    exact w_iretz rfl rfl (by decide) ⟨_, rfl, H⟩
  · replace H := H.2 h
    refine w_iload rfl rfl ?_
    refine w_aload_n rfl rfl ?_
    obtain ⟨g1, H⟩ := H
    refine c_get rfl rfl rfl g1 ?_
    refine w_icmp_ge rfl (fun h => ?_) (fun h => ?_)
    · replace H := H.1 h
      refine w_iconst (n := 0) rfl rfl ?_
      exact w_iretz rfl rfl (by decide) ⟨_, rfl, H⟩
    · replace H := H.2 h
      refine w_aload_n rfl rfl ?_
      refine c_getr rfl rfl rfl g1 ?_
      refine w_iload rfl rfl ?_
      obtain ⟨g2, H⟩ := H
      obtain ⟨g3, H⟩ := H
      refine c_aald (t := 3) rfl ⟨g2, by decide, by decide⟩ g3 ?_
      refine w_astore rfl rfl ?_
      refine w_aload rfl rfl ?_
      obtain ⟨g4, H⟩ := H
      refine c_get rfl rfl rfl g4 ?_
      refine w_iconst (n := 3) rfl rfl ?_
      refine w_icmp_ne rfl (fun h => ?_) (fun h => ?_)
      · replace H := H.1 h
        obtain ⟨g5, H⟩ := H
        refine w_iinc rfl rfl rfl g5 ?_
        refine w_goto rfl ?_
        exact wp_ls (sl_s (sl_s (sl_s (sl_s (sl_s (sl_0)))))) H
      · replace H := H.2 h
        refine w_aload rfl rfl ?_
        refine w_aload rfl rfl ?_
        refine c_get rfl rfl rfl g4 ?_
        refine w_null rfl ?_
        refine w_bipush (n := (-9)) rfl rfl rfl ?_
        refine w_static (as := [vr (aR s (fR s l0 0) l4), vi (fI s (aR s (fR s l0 0) l4) 4), vr 2, vi (-9)]) (r := []) rfl rfl rfl rfl rfl (wc_mono H (Nat.le_refl _) ?_)
        rintro _ s6 ⟨r7, rfl, H⟩
        show wk iv L h0 (d + 1) 216 63 [lr l0, lr l1, lr l2, li l3, li l4, lr (aR s (fR s l0 0) l4)] [vr r7] s6 (qi F)
        refine w_astore rfl rfl ?_
        refine w_aload rfl rfl ?_
        refine c_null rfl (fun h => ?_) (fun h => ?_)
        · replace H := H.1 h
          refine w_iconst (n := 1) rfl rfl ?_
          refine w_goto rfl ?_
          refine w_istore rfl rfl ?_
          refine w_iload rfl rfl ?_
          refine w_if_eq rfl (fun h => absurd h (by decide)) (fun _ => ?_)
          refine w_aload_n rfl rfl ?_
          refine w_aload rfl rfl ?_
          obtain ⟨g8, H⟩ := H
          refine c_get rfl rfl rfl g8 ?_
          refine w_null rfl ?_
          refine w_bipush (n := (-9)) rfl rfl rfl ?_
          refine w_static (as := [vr l2, vi (fI s6 (aR s (fR s l0 0) l4) 4), vr 2, vi (-9)]) (r := []) rfl rfl rfl rfl rfl (wc_mono H (Nat.le_refl _) ?_)
          rintro _ s9 ⟨r10, rfl, H⟩
          show wk iv L h0 (d + 1) 216 104 [lr l0, lr l1, lr l2, li l3, li l4, lr (aR s (fR s l0 0) l4), lr r7, li 1] [vr r10] s9 (qi F)
          refine w_aload rfl rfl ?_
          obtain ⟨g11, H⟩ := H
          obtain ⟨g12, H⟩ := H
          refine c_acmp_eq rfl g11 g12 (fun h => ?_) (fun h => ?_)
          · replace H := H.1 h
            obtain ⟨g13, H⟩ := H
            refine w_iinc rfl rfl rfl g13 ?_
            refine w_goto rfl ?_
            exact wp_ls (sl_s (sl_s (sl_s (sl_s (sl_s (sl_0)))))) H
          · replace H := H.2 h
            refine w_iconst (n := 1) rfl rfl ?_
            exact w_iretz rfl rfl (by decide) ⟨_, rfl, H⟩
        · replace H := H.2 h
          refine w_aload_n rfl rfl ?_
          refine w_aload rfl rfl ?_
          refine w_aload_n rfl rfl ?_
          obtain ⟨g14, H⟩ := H
          refine c_virt (p := l0) (as := [vr r7, vr l1]) (r := []) rfl rfl rfl rfl rfl rfl g14 (wc_mono H (Nat.le_refl _) ?_)
          rintro _ s15 ⟨r16, rfl, H⟩
          show wk iv L h0 (d + 1) 216 77 [lr l0, lr l1, lr l2, li l3, li l4, lr (aR s (fR s l0 0) l4), lr r7] [vi r16] s15 (qi F)
          refine w_if_ne rfl (fun h => ?_) (fun h => ?_)
          · replace H := H.1 h
            refine w_iconst (n := 0) rfl rfl ?_
            refine w_istore rfl rfl ?_
            refine w_iload rfl rfl ?_
            refine w_if_eq rfl (fun _ => ?_) (fun h => absurd h (by decide))
            obtain ⟨g17, H⟩ := H
            refine w_iinc rfl rfl rfl g17 ?_
            refine w_goto rfl ?_
            exact wp_ls (sl_s (sl_s (sl_s (sl_s (sl_s (sl_0)))))) H
          · replace H := H.2 h
            refine w_iconst (n := 1) rfl rfl ?_
            refine w_goto rfl ?_
            refine w_istore rfl rfl ?_
            refine w_iload rfl rfl ?_
            refine w_if_eq rfl (fun h => absurd h (by decide)) (fun _ => ?_)
            refine w_aload_n rfl rfl ?_
            refine w_aload rfl rfl ?_
            obtain ⟨g18, H⟩ := H
            refine c_get rfl rfl rfl g18 ?_
            refine w_null rfl ?_
            refine w_bipush (n := (-9)) rfl rfl rfl ?_
            refine w_static (as := [vr l2, vi (fI s15 (aR s (fR s l0 0) l4) 4), vr 2, vi (-9)]) (r := []) rfl rfl rfl rfl rfl (wc_mono H (Nat.le_refl _) ?_)
            rintro _ s19 ⟨r20, rfl, H⟩
            show wk iv L h0 (d + 1) 216 104 [lr l0, lr l1, lr l2, li l3, li l4, lr (aR s (fR s l0 0) l4), lr r7, li 1] [vr r20] s19 (qi F)
            refine w_aload rfl rfl ?_
            obtain ⟨g21, H⟩ := H
            obtain ⟨g22, H⟩ := H
            refine c_acmp_eq rfl g21 g22 (fun h => ?_) (fun h => ?_)
            · replace H := H.1 h
              obtain ⟨g23, H⟩ := H
              refine w_iinc rfl rfl rfl g23 ?_
              refine w_goto rfl ?_
              exact wp_ls (sl_s (sl_s (sl_s (sl_s (sl_s (sl_0)))))) H
            · replace H := H.2 h
              refine w_iconst (n := 1) rfl rfl ?_
              exact w_iretz rfl rfl (by decide) ⟨_, rfl, H⟩

/-- HoleDesk$Sheet.noteReasons()V -/
theorem C217 {iv : List (Int × Int)} {L : Nat} {h0 : MH} {d : Nat} {s : SC} {a0 : Nat} {F : SC → Prop} (H : wk iv L h0 d 217 2 [lr a0, li 0] [] s (qv F)) : ck iv L h0 d 217 [vr a0] s (qv F) := by
  show wk iv L h0 d 217 0 [lr a0] [] s (qv F)
  refine w_iconst (n := 0) rfl rfl ?_
  refine w_istore_n rfl rfl ?_
  exact wp_ls (sl_s (sl_s (sl_0))) H

/-- HoleDesk$Sheet.noteReasons()V at 2 -/
theorem C217_2 {iv : List (Int × Int)} {L : Nat} {h0 : MH} {d : Nat} {s : SC} {l0 : Nat} {l1 : Int} {F : SC → Prop} (H : (kl s l0 = 8) ∧ ((fI s l0 3 ≤ l1 → F s) ∧ (l1 < fI s l0 3 → (kl s (fR s l0 0) = 103) ∧ (0 ≤ l1 ∧ l1 < le s (fR s l0 0)) ∧ (kl s (aR s (fR s l0 0) l1) = 5) ∧ (-2147483648 ≤ l1 + 1 ∧ l1 + 1 ≤ 2147483647) ∧ wk iv L h0 d 217 2 [lr l0, li (l1 + 1)] [] (uI s (aR s (fR s l0 0) l1) 11 (fI s (aR s (fR s l0 0) l1) 10)) (qv F)))) : wk iv L h0 d 217 2 [lr l0, li l1] [] s (qv F) := by
  refine w_iload_n rfl rfl ?_
  refine w_aload_n rfl rfl ?_
  obtain ⟨g1, H⟩ := H
  refine c_get rfl rfl rfl g1 ?_
  refine w_icmp_ge rfl (fun h => ?_) (fun h => ?_)
  · replace H := H.1 h
    exact w_ret rfl rfl ⟨rfl, H⟩
  · replace H := H.2 h
    refine w_aload_n rfl rfl ?_
    refine c_getr rfl rfl rfl g1 ?_
    refine w_iload_n rfl rfl ?_
    obtain ⟨g2, H⟩ := H
    obtain ⟨g3, H⟩ := H
    refine c_aald (t := 3) rfl ⟨g2, by decide, by decide⟩ g3 ?_
    refine w_aload_n rfl rfl ?_
    refine c_getr rfl rfl rfl g1 ?_
    refine w_iload_n rfl rfl ?_
    refine c_aald (t := 3) rfl ⟨g2, by decide, by decide⟩ g3 ?_
    obtain ⟨g4, H⟩ := H
    refine c_get rfl rfl rfl g4 ?_
    refine c_put rfl rfl rfl rfl g4 ?_
    obtain ⟨g5, H⟩ := H
    refine w_iinc rfl rfl rfl g5 ?_
    refine w_goto rfl ?_
    exact wp_ls (sl_s (sl_s (sl_0))) H

/-- HoleDesk$Sheet.reasonsChanged()Z -/
theorem C218 {iv : List (Int × Int)} {L : Nat} {h0 : MH} {d : Nat} {s : SC} {a0 : Nat} {F : Int → SC → Prop} (H : wk iv L h0 d 218 2 [lr a0, li 0] [] s (qi F)) : ck iv L h0 d 218 [vr a0] s (qi F) := by
  show wk iv L h0 d 218 0 [lr a0] [] s (qi F)
  refine w_iconst (n := 0) rfl rfl ?_
  refine w_istore_n rfl rfl ?_
  exact wp_ls (sl_s (sl_s (sl_0))) H

/-- HoleDesk$Sheet.reasonsChanged()Z at 2 -/
theorem C218_2 {iv : List (Int × Int)} {L : Nat} {h0 : MH} {d : Nat} {s : SC} {l0 : Nat} {l1 : Int} {F : Int → SC → Prop} (H : (kl s l0 = 8) ∧ ((fI s l0 3 ≤ l1 → F 0 s) ∧ (l1 < fI s l0 3 → (kl s (fR s l0 0) = 103) ∧ (0 ≤ l1 ∧ l1 < le s (fR s l0 0)) ∧ (kl s (aR s (fR s l0 0) l1) = 5) ∧ ((fI s (aR s (fR s l0 0) l1) 11 = (-9) → (-2147483648 ≤ l1 + 1 ∧ l1 + 1 ≤ 2147483647) ∧ wk iv L h0 d 218 2 [lr l0, li (l1 + 1)] [] s (qi F)) ∧ (fI s (aR s (fR s l0 0) l1) 11 ≠ (-9) → ((fI s (aR s (fR s l0 0) l1) 11 = fI s (aR s (fR s l0 0) l1) 10 → (-2147483648 ≤ l1 + 1 ∧ l1 + 1 ≤ 2147483647) ∧ wk iv L h0 d 218 2 [lr l0, li (l1 + 1)] [] s (qi F)) ∧ (fI s (aR s (fR s l0 0) l1) 11 ≠ fI s (aR s (fR s l0 0) l1) 10 → F 1 s))))))) : wk iv L h0 d 218 2 [lr l0, li l1] [] s (qi F) := by
  refine w_iload_n rfl rfl ?_
  refine w_aload_n rfl rfl ?_
  obtain ⟨g1, H⟩ := H
  refine c_get rfl rfl rfl g1 ?_
  refine w_icmp_ge rfl (fun h => ?_) (fun h => ?_)
  · replace H := H.1 h
    refine w_iconst (n := 0) rfl rfl ?_
    exact w_iretz rfl rfl (by decide) ⟨_, rfl, H⟩
  · replace H := H.2 h
    refine w_aload_n rfl rfl ?_
    refine c_getr rfl rfl rfl g1 ?_
    refine w_iload_n rfl rfl ?_
    obtain ⟨g2, H⟩ := H
    obtain ⟨g3, H⟩ := H
    refine c_aald (t := 3) rfl ⟨g2, by decide, by decide⟩ g3 ?_
    refine w_astore_n rfl rfl ?_
    refine w_aload_n rfl rfl ?_
    obtain ⟨g4, H⟩ := H
    refine c_get rfl rfl rfl g4 ?_
    refine w_bipush (n := (-9)) rfl rfl rfl ?_
    refine w_icmp_eq rfl (fun h => ?_) (fun h => ?_)
    · replace H := H.1 h
      obtain ⟨g5, H⟩ := H
      refine w_iinc rfl rfl rfl g5 ?_
      refine w_goto rfl ?_
      exact wp_ls (sl_s (sl_s (sl_0))) H
    · replace H := H.2 h
      refine w_aload_n rfl rfl ?_
      refine c_get rfl rfl rfl g4 ?_
      refine w_aload_n rfl rfl ?_
      refine c_get rfl rfl rfl g4 ?_
      refine w_icmp_eq rfl (fun h => ?_) (fun h => ?_)
      · replace H := H.1 h
        obtain ⟨g6, H⟩ := H
        refine w_iinc rfl rfl rfl g6 ?_
        refine w_goto rfl ?_
        exact wp_ls (sl_s (sl_s (sl_0))) H
      · replace H := H.2 h
        refine w_iconst (n := 1) rfl rfl ?_
        exact w_iretz rfl rfl (by decide) ⟨_, rfl, H⟩

/-- HoleDesk$Sheet.remember()V -/
theorem C219 {iv : List (Int × Int)} {L : Nat} {h0 : MH} {d : Nat} {s : SC} {a0 : Nat} {F : SC → Prop} (H : (kl s a0 = 8) ∧ (-2147483648 ≤ (fI s a0 6) + 1 ∧ (fI s a0 6) + 1 ≤ 2147483647) ∧ (-2147483648 ≤ ((fI s a0 6) + 1).tdiv 20 ∧ ((fI s a0 6) + 1).tdiv 20 ≤ 2147483647) ∧ (-2147483648 ≤ ((fI s a0 6) + 1) - ((fI s a0 6) + 1).tdiv 20 * 20 ∧ ((fI s a0 6) + 1) - ((fI s a0 6) + 1).tdiv 20 * 20 ≤ 2147483647) ∧ (kl s (fR s a0 5) = 104) ∧ (0 ≤ fI (uI s a0 6 (((fI s a0 6) + 1) - ((fI s a0 6) + 1).tdiv 20 * 20)) a0 6 ∧ fI (uI s a0 6 (((fI s a0 6) + 1) - ((fI s a0 6) + 1).tdiv 20 * 20)) a0 6 < le s (fR s a0 5)) ∧ (kl s (aR s (fR s a0 5) (fI (uI s a0 6 (((fI s a0 6) + 1) - ((fI s a0 6) + 1).tdiv 20 * 20)) a0 6)) = 9) ∧ ck iv L h0 d 222 [vr (aR s (fR s a0 5) (fI (uI s a0 6 (((fI s a0 6) + 1) - ((fI s a0 6) + 1).tdiv 20 * 20)) a0 6)), vr a0] (uI s a0 6 (((fI s a0 6) + 1) - ((fI s a0 6) + 1).tdiv 20 * 20)) (qv fun s8 => (kl s8 a0 = 8) ∧ (-2147483648 ≤ (fI s8 a0 7) + 1 ∧ (fI s8 a0 7) + 1 ≤ 2147483647) ∧ F (uI s8 a0 7 (if 20 < (fI s8 a0 7) + 1 then 20 else (fI s8 a0 7) + 1)))) : ck iv L h0 (d + 1) 219 [vr a0] s (qv F) := by
  show wk iv L h0 (d + 1) 219 0 [lr a0] [] s (qv F)
  refine w_aload_n rfl rfl ?_
  refine w_aload_n rfl rfl ?_
  obtain ⟨g1, H⟩ := H
  refine c_get rfl rfl rfl g1 ?_
  refine w_iconst (n := 1) rfl rfl ?_
  obtain ⟨g2, H⟩ := H
  refine w_iadd rfl g2 ?_
  refine w_bipush (n := 20) rfl rfl rfl ?_
  obtain ⟨g3, H⟩ := H
  obtain ⟨g4, H⟩ := H
  refine w_irem rfl (by decide) g3 g4 ?_
  refine c_put rfl rfl rfl rfl g1 ?_
  refine w_aload_n rfl rfl ?_
  refine c_getr rfl rfl rfl g1 ?_
  show wk iv L h0 (d + 1) 219 17 [lr a0] [vr (fR s a0 5)] (uI s a0 6 (((fI s a0 6) + 1) - ((fI s a0 6) + 1).tdiv 20 * 20)) (qv F)
  refine w_aload_n rfl rfl ?_
  refine c_get rfl rfl rfl g1 ?_
  show wk iv L h0 (d + 1) 219 21 [lr a0] [vi (fI (uI s a0 6 (((fI s a0 6) + 1) - ((fI s a0 6) + 1).tdiv 20 * 20)) a0 6), vr (fR s a0 5)] (uI s a0 6 (((fI s a0 6) + 1) - ((fI s a0 6) + 1).tdiv 20 * 20)) (qv F)
  obtain ⟨g5, H⟩ := H
  obtain ⟨g6, H⟩ := H
  refine c_aald (t := 4) rfl ⟨g5, by decide, by decide⟩ g6 ?_
  show wk iv L h0 (d + 1) 219 22 [lr a0] [vr (aR s (fR s a0 5) (fI (uI s a0 6 (((fI s a0 6) + 1) - ((fI s a0 6) + 1).tdiv 20 * 20)) a0 6))] (uI s a0 6 (((fI s a0 6) + 1) - ((fI s a0 6) + 1).tdiv 20 * 20)) (qv F)
  refine w_aload_n rfl rfl ?_
  obtain ⟨g7, H⟩ := H
  refine c_virt (p := (aR s (fR s a0 5) (fI (uI s a0 6 (((fI s a0 6) + 1) - ((fI s a0 6) + 1).tdiv 20 * 20)) a0 6))) (as := [vr a0]) (r := []) rfl rfl rfl rfl rfl rfl g7 (wc_mono H (Nat.le_refl _) ?_)
  rintro _ s8 ⟨rfl, H⟩
  show wk iv L h0 (d + 1) 219 26 [lr a0] [] s8 (qv F)
  refine w_aload_n rfl rfl ?_
  refine w_aload_n rfl rfl ?_
  obtain ⟨g9, H⟩ := H
  refine c_get rfl rfl rfl g9 ?_
  refine w_iconst (n := 1) rfl rfl ?_
  obtain ⟨g10, H⟩ := H
  refine w_iadd rfl g10 ?_
  refine w_bipush (n := 20) rfl rfl rfl ?_
  refine c_min rfl rfl ?_
  refine c_put rfl rfl rfl rfl g9 ?_
  exact w_ret rfl rfl ⟨rfl, H⟩

/-- HoleDesk$Sheet.restore()V -/
theorem C220 {iv : List (Int × Int)} {L : Nat} {h0 : MH} {d : Nat} {s : SC} {a0 : Nat} {F : SC → Prop} (H : (kl s a0 = 8) ∧ (kl s (fR s a0 5) = 104) ∧ (0 ≤ fI s a0 6 ∧ fI s a0 6 < le s (fR s a0 5)) ∧ (kl s (aR s (fR s a0 5) (fI s a0 6)) = 9) ∧ ck iv L h0 d 223 [vr (aR s (fR s a0 5) (fI s a0 6)), vr a0] s (qv fun s5 => (kl s5 a0 = 8) ∧ (-2147483648 ≤ (fI s5 a0 6) + 20 ∧ (fI s5 a0 6) + 20 ≤ 2147483647) ∧ (-2147483648 ≤ ((fI s5 a0 6) + 20) - 1 ∧ ((fI s5 a0 6) + 20) - 1 ≤ 2147483647) ∧ (-2147483648 ≤ (((fI s5 a0 6) + 20) - 1).tdiv 20 ∧ (((fI s5 a0 6) + 20) - 1).tdiv 20 ≤ 2147483647) ∧ (-2147483648 ≤ (((fI s5 a0 6) + 20) - 1) - (((fI s5 a0 6) + 20) - 1).tdiv 20 * 20 ∧ (((fI s5 a0 6) + 20) - 1) - (((fI s5 a0 6) + 20) - 1).tdiv 20 * 20 ≤ 2147483647) ∧ (-2147483648 ≤ (fI s5 a0 7) - 1 ∧ (fI s5 a0 7) - 1 ≤ 2147483647) ∧ F (uI (uI s5 a0 6 ((((fI s5 a0 6) + 20) - 1) - (((fI s5 a0 6) + 20) - 1).tdiv 20 * 20)) a0 7 ((fI s5 a0 7) - 1)))) : ck iv L h0 (d + 1) 220 [vr a0] s (qv F) := by
  show wk iv L h0 (d + 1) 220 0 [lr a0] [] s (qv F)
  refine w_aload_n rfl rfl ?_
  obtain ⟨g1, H⟩ := H
  refine c_getr rfl rfl rfl g1 ?_
  refine w_aload_n rfl rfl ?_
  refine c_get rfl rfl rfl g1 ?_
  obtain ⟨g2, H⟩ := H
  obtain ⟨g3, H⟩ := H
  refine c_aald (t := 4) rfl ⟨g2, by decide, by decide⟩ g3 ?_
  refine w_aload_n rfl rfl ?_
  obtain ⟨g4, H⟩ := H
  refine c_virt (p := (aR s (fR s a0 5) (fI s a0 6))) (as := [vr a0]) (r := []) rfl rfl rfl rfl rfl rfl g4 (wc_mono H (Nat.le_refl _) ?_)
  rintro _ s5 ⟨rfl, H⟩
  show wk iv L h0 (d + 1) 220 13 [lr a0] [] s5 (qv F)
  refine w_aload_n rfl rfl ?_
  refine w_aload_n rfl rfl ?_
  obtain ⟨g6, H⟩ := H
  refine c_get rfl rfl rfl g6 ?_
  refine w_bipush (n := 20) rfl rfl rfl ?_
  obtain ⟨g7, H⟩ := H
  refine w_iadd rfl g7 ?_
  refine w_iconst (n := 1) rfl rfl ?_
  obtain ⟨g8, H⟩ := H
  refine w_isub rfl g8 ?_
  refine w_bipush (n := 20) rfl rfl rfl ?_
  obtain ⟨g9, H⟩ := H
  obtain ⟨g10, H⟩ := H
  refine w_irem rfl (by decide) g9 g10 ?_
  refine c_put rfl rfl rfl rfl g6 ?_
  refine w_aload_n rfl rfl ?_
  refine w_dup rfl rfl ?_
  refine c_get rfl rfl rfl g6 ?_
  show wk iv L h0 (d + 1) 220 34 [lr a0] [vi (fI s5 a0 7), vr a0] (uI s5 a0 6 ((((fI s5 a0 6) + 20) - 1) - (((fI s5 a0 6) + 20) - 1).tdiv 20 * 20)) (qv F)
  refine w_iconst (n := 1) rfl rfl ?_
  obtain ⟨g11, H⟩ := H
  refine w_isub rfl g11 ?_
  refine c_put rfl rfl rfl rfl g6 ?_
  exact w_ret rfl rfl ⟨rfl, H⟩

/-- HoleDesk$Snapshot.<init>()V -/
theorem C221 {iv : List (Int × Int)} {L : Nat} {h0 : MH} {d : Nat} {s : SC} {a0 : Nat} {F : SC → Prop} (H : (a0 ≠ 2) ∧ (353 ≤ nxt s) ∧ (kl (nA s 3 60) a0 = 9) ∧ (353 ≤ nxt s + 1) ∧ (kl (nA (nA s 3 60) 3 60) a0 = 9) ∧ (353 ≤ nxt s + 2) ∧ (kl (nA (nA (nA s 3 60) 3 60) 0 60) a0 = 9) ∧ (353 ≤ nxt s + 3) ∧ (kl (nA (nA (nA (nA s 3 60) 3 60) 0 60) 0 60) a0 = 9) ∧ F (uR (uI (uR (nA (uR (nA (uR (nA (uR (nA s 3 60) a0 0 (nxt s)) 3 60) a0 1 (nxt s + 1)) 0 60) a0 2 (nxt s + 2)) 0 60) a0 3 (nxt s + 3)) a0 4 0) a0 5 2)) : ck iv L h0 d 221 [vr a0] s (qv F) := by
  show wk iv L h0 d 221 0 [lr a0] [] s (qv F)
  refine w_aload_n rfl rfl ?_
  obtain ⟨g1, H⟩ := H
  refine c_oinit rfl rfl g1 ?_
  refine w_aload_n rfl rfl ?_
  refine w_bipush (n := 60) rfl rfl rfl ?_
  obtain ⟨g2, H⟩ := H
  refine c_anewa rfl rfl ⟨by decide, by decide⟩ g2 ?_
  show wk iv L h0 d 221 10 [lr a0] [vr (nxt s), vr a0] (nA s 3 60) (qv F)
  obtain ⟨g3, H⟩ := H
  refine c_putr rfl rfl rfl rfl g3 ?_
  refine w_aload_n rfl rfl ?_
  refine w_bipush (n := 60) rfl rfl rfl ?_
  obtain ⟨g4, H⟩ := H
  refine c_anewa rfl rfl ⟨by decide, by decide⟩ g4 ?_
  show wk iv L h0 d 221 19 [lr a0] [vr (nxt s + 1), vr a0] (nA (uR (nA s 3 60) a0 0 (nxt s)) 3 60) (qv F)
  obtain ⟨g5, H⟩ := H
  refine c_putr rfl rfl rfl rfl g5 ?_
  refine w_aload_n rfl rfl ?_
  refine w_bipush (n := 60) rfl rfl rfl ?_
  obtain ⟨g6, H⟩ := H
  refine c_newa rfl rfl ⟨by decide, by decide⟩ g6 ?_
  show wk iv L h0 d 221 27 [lr a0] [vr (nxt s + 2), vr a0] (nA (uR (nA (uR (nA s 3 60) a0 0 (nxt s)) 3 60) a0 1 (nxt s + 1)) 0 60) (qv F)
  obtain ⟨g7, H⟩ := H
  refine c_putr rfl rfl rfl rfl g7 ?_
  refine w_aload_n rfl rfl ?_
  refine w_bipush (n := 60) rfl rfl rfl ?_
  obtain ⟨g8, H⟩ := H
  refine c_newa rfl rfl ⟨by decide, by decide⟩ g8 ?_
  show wk iv L h0 d 221 35 [lr a0] [vr (nxt s + 3), vr a0] (nA (uR (nA (uR (nA (uR (nA s 3 60) a0 0 (nxt s)) 3 60) a0 1 (nxt s + 1)) 0 60) a0 2 (nxt s + 2)) 0 60) (qv F)
  obtain ⟨g9, H⟩ := H
  refine c_putr rfl rfl rfl rfl g9 ?_
  refine w_aload_n rfl rfl ?_
  refine w_iconst (n := 0) rfl rfl ?_
  refine c_put rfl rfl rfl rfl g9 ?_
  refine w_aload_n rfl rfl ?_
  refine w_null rfl ?_
  refine c_putr rfl rfl rfl rfl g9 ?_
  exact w_ret rfl rfl ⟨rfl, H⟩

/-- HoleDesk$Snapshot.noteAll(LHoleDesk$Sheet;)V -/
theorem C222 {iv : List (Int × Int)} {L : Nat} {h0 : MH} {d : Nat} {s : SC} {a0 : Nat} {a1 : Nat} {F : SC → Prop} (H : (kl s a1 = 8) ∧ (kl s a0 = 9) ∧ wk iv L h0 d 222 18 [lr a0, lr a1, li 0] [] (uR (uI s a0 4 (fI s a1 3)) a0 5 (fR s a1 2)) (qv F)) : ck iv L h0 d 222 [vr a0, vr a1] s (qv F) := by
  show wk iv L h0 d 222 0 [lr a0, lr a1] [] s (qv F)
  refine w_aload_n rfl rfl ?_
  refine w_aload_n rfl rfl ?_
  obtain ⟨g1, H⟩ := H
  refine c_get rfl rfl rfl g1 ?_
  obtain ⟨g2, H⟩ := H
  refine c_put rfl rfl rfl rfl g2 ?_
  refine w_aload_n rfl rfl ?_
  refine w_aload_n rfl rfl ?_
  refine c_getr rfl rfl rfl g1 ?_
  show wk iv L h0 d 222 13 [lr a0, lr a1] [vr (fR s a1 2), vr a0] (uI s a0 4 (fI s a1 3)) (qv F)
  refine c_putr rfl rfl rfl rfl g2 ?_
  refine w_iconst (n := 0) rfl rfl ?_
  refine w_istore_n rfl rfl ?_
  exact wp_ls (sl_s (sl_s (sl_s (sl_0)))) H

/-- HoleDesk$Snapshot.noteAll(LHoleDesk$Sheet;)V at 18 -/
theorem C222_18 {iv : List (Int × Int)} {L : Nat} {h0 : MH} {d : Nat} {s : SC} {l0 : Nat} {l1 : Nat} {l2 : Int} {F : SC → Prop} (H : (kl s l0 = 9) ∧ ((fI s l0 4 ≤ l2 → F s) ∧ (l2 < fI s l0 4 → (kl s l1 = 8) ∧ (kl s (fR s l1 0) = 103) ∧ (0 ≤ l2 ∧ l2 < le s (fR s l1 0)) ∧ (kl s (fR s l0 0) = 103) ∧ (0 ≤ l2 ∧ l2 < le s (fR s l0 0)) ∧ (aR s (fR s l1 0) l2 = 2 ∨ kl s (aR s (fR s l1 0) l2) = 5) ∧ (kl s (aR s (fR s l1 0) l2) = 5) ∧ (kl s (fR s l0 1) = 103) ∧ (0 ≤ l2 ∧ l2 < le s (fR s l0 1)) ∧ (fR s (aR s (fR s l1 0) l2) 5 = 2 ∨ kl s (fR s (aR s (fR s l1 0) l2) 5) = 5) ∧ (kl s (fR s l0 2) = 100) ∧ (0 ≤ l2 ∧ l2 < le s (fR s l0 2)) ∧ (kl s (fR s l0 3) = 100) ∧ (0 ≤ l2 ∧ l2 < le s (fR s l0 3)) ∧ (-2147483648 ≤ l2 + 1 ∧ l2 + 1 ≤ 2147483647) ∧ wk iv L h0 d 222 18 [lr l0, lr l1, li (l2 + 1)] [] (uA (uA (uB (uB s (fR s l0 0) l2 (aR s (fR s l1 0) l2)) (fR s l0 1) l2 (fR s (aR s (fR s l1 0) l2) 5)) (fR s l0 2) l2 (fI s (aR s (fR s l1 0) l2) 6)) (fR s l0 3) l2 (fI s (aR s (fR s l1 0) l2) 4)) (qv F)))) : wk iv L h0 d 222 18 [lr l0, lr l1, li l2] [] s (qv F) := by
  refine w_iload_n rfl rfl ?_
  refine w_aload_n rfl rfl ?_
  obtain ⟨g1, H⟩ := H
  refine c_get rfl rfl rfl g1 ?_
  refine w_icmp_ge rfl (fun h => ?_) (fun h => ?_)
  · replace H := H.1 h
    exact w_ret rfl rfl ⟨rfl, H⟩
  · replace H := H.2 h
    refine w_aload_n rfl rfl ?_
    obtain ⟨g2, H⟩ := H
    refine c_getr rfl rfl rfl g2 ?_
    refine w_iload_n rfl rfl ?_
    obtain ⟨g3, H⟩ := H
    obtain ⟨g4, H⟩ := H
    refine c_aald (t := 3) rfl ⟨g3, by decide, by decide⟩ g4 ?_
    refine w_astore_n rfl rfl ?_
    refine w_aload_n rfl rfl ?_
    refine c_getr rfl rfl rfl g1 ?_
    refine w_iload_n rfl rfl ?_
    refine w_aload_n rfl rfl ?_
    obtain ⟨g5, H⟩ := H
    obtain ⟨g6, H⟩ := H
    obtain ⟨g7, H⟩ := H
    refine c_aast rfl rfl g5 g6 (by rcases g7 with e | e; exact Or.inl e; exact Or.inr ⟨e, by decide⟩) ?_
    refine w_aload_n rfl rfl ?_
    refine c_getr rfl rfl rfl g1 ?_
    show wk iv L h0 d 222 44 [lr l0, lr l1, li l2, lr (aR s (fR s l1 0) l2)] [vr (fR s l0 1)] (uB s (fR s l0 0) l2 (aR s (fR s l1 0) l2)) (qv F)
    refine w_iload_n rfl rfl ?_
    refine w_aload_n rfl rfl ?_
    obtain ⟨g8, H⟩ := H
    refine c_getr rfl rfl rfl g8 ?_
    show wk iv L h0 d 222 49 [lr l0, lr l1, li l2, lr (aR s (fR s l1 0) l2)] [vr (fR s (aR s (fR s l1 0) l2) 5), vi l2, vr (fR s l0 1)] (uB s (fR s l0 0) l2 (aR s (fR s l1 0) l2)) (qv F)
    obtain ⟨g9, H⟩ := H
    obtain ⟨g10, H⟩ := H
    obtain ⟨g11, H⟩ := H
    refine c_aast rfl rfl g9 g10 (by rcases g11 with e | e; exact Or.inl e; exact Or.inr ⟨e, by decide⟩) ?_
    refine w_aload_n rfl rfl ?_
    refine c_getr rfl rfl rfl g1 ?_
    show wk iv L h0 d 222 54 [lr l0, lr l1, li l2, lr (aR s (fR s l1 0) l2)] [vr (fR s l0 2)] (uB (uB s (fR s l0 0) l2 (aR s (fR s l1 0) l2)) (fR s l0 1) l2 (fR s (aR s (fR s l1 0) l2) 5)) (qv F)
    refine w_iload_n rfl rfl ?_
    refine w_aload_n rfl rfl ?_
    refine c_get rfl rfl rfl g8 ?_
    show wk iv L h0 d 222 59 [lr l0, lr l1, li l2, lr (aR s (fR s l1 0) l2)] [vi (fI s (aR s (fR s l1 0) l2) 6), vi l2, vr (fR s l0 2)] (uB (uB s (fR s l0 0) l2 (aR s (fR s l1 0) l2)) (fR s l0 1) l2 (fR s (aR s (fR s l1 0) l2) 5)) (qv F)
    obtain ⟨g12, H⟩ := H
    obtain ⟨g13, H⟩ := H
    refine c_ast rfl g12 g13 ?_
    refine w_aload_n rfl rfl ?_
    refine c_getr rfl rfl rfl g1 ?_
    show wk iv L h0 d 222 64 [lr l0, lr l1, li l2, lr (aR s (fR s l1 0) l2)] [vr (fR s l0 3)] (uA (uB (uB s (fR s l0 0) l2 (aR s (fR s l1 0) l2)) (fR s l0 1) l2 (fR s (aR s (fR s l1 0) l2) 5)) (fR s l0 2) l2 (fI s (aR s (fR s l1 0) l2) 6)) (qv F)
    refine w_iload_n rfl rfl ?_
    refine w_aload_n rfl rfl ?_
    refine c_get rfl rfl rfl g8 ?_
    show wk iv L h0 d 222 69 [lr l0, lr l1, li l2, lr (aR s (fR s l1 0) l2)] [vi (fI s (aR s (fR s l1 0) l2) 4), vi l2, vr (fR s l0 3)] (uA (uB (uB s (fR s l0 0) l2 (aR s (fR s l1 0) l2)) (fR s l0 1) l2 (fR s (aR s (fR s l1 0) l2) 5)) (fR s l0 2) l2 (fI s (aR s (fR s l1 0) l2) 6)) (qv F)
    obtain ⟨g14, H⟩ := H
    obtain ⟨g15, H⟩ := H
    refine c_ast rfl g14 g15 ?_
    obtain ⟨g16, H⟩ := H
    refine w_iinc rfl rfl rfl g16 ?_
    refine w_goto rfl ?_
    exact wp_ls (sl_s (sl_s (sl_s (sl_0)))) H
end
section
/-! What the methods of the desk come to. Printed by wip/gen2/gens.py. -/
/-- HoleDesk$Snapshot.bringBack(LHoleDesk$Sheet;)V -/
theorem C223 {iv : List (Int × Int)} {L : Nat} {h0 : MH} {d : Nat} {s : SC} {a0 : Nat} {a1 : Nat} {F : SC → Prop} (H : wk iv L h0 (d + 1) 223 2 [lr a0, lr a1, li 0] [] s (qv F)) : ck iv L h0 (d + 1) 223 [vr a0, vr a1] s (qv F) := by
  show wk iv L h0 (d + 1) 223 0 [lr a0, lr a1] [] s (qv F)
  refine w_iconst (n := 0) rfl rfl ?_
  refine w_istore_n rfl rfl ?_
  exact wp_ls (sl_s (sl_s (sl_s (sl_0)))) H

/-- HoleDesk$Snapshot.bringBack(LHoleDesk$Sheet;)V at 2 -/
theorem C223_2 {iv : List (Int × Int)} {L : Nat} {h0 : MH} {d : Nat} {s : SC} {l0 : Nat} {l1 : Nat} {l2 : Int} {F : SC → Prop} (H : (kl s l0 = 9) ∧ ((fI s l0 4 ≤ l2 → (kl s l1 = 8) ∧ F (uR s l1 2 (fR s l0 5))) ∧ (l2 < fI s l0 4 → (kl s (fR s l0 0) = 103) ∧ (0 ≤ l2 ∧ l2 < le s (fR s l0 0)) ∧ (kl s (fR s l0 3) = 100) ∧ (0 ≤ l2 ∧ l2 < le s (fR s l0 3)) ∧ (kl s (aR s (fR s l0 0) l2) = 5) ∧ (kl s (fR s l0 1) = 103) ∧ (0 ≤ l2 ∧ l2 < le s (fR s l0 1)) ∧ ((aR s (fR s l0 1) l2 ≠ 2 → (kl s (fR s l0 2) = 100) ∧ (0 ≤ l2 ∧ l2 < le s (fR s l0 2)) ∧ (kl s (aR s (fR s l0 1) l2) = 5) ∧ ck iv L h0 d 188 [vr (aR s (fR s l0 1) l2), vi (aI s (fR s l0 2) l2), vr (aR s (fR s l0 0) l2)] (uR (uI s (aR s (fR s l0 0) l2) 4 (aI s (fR s l0 3) l2)) (aR s (fR s l0 0) l2) 12 2) (qv fun s13 => (-2147483648 ≤ l2 + 1 ∧ l2 + 1 ≤ 2147483647) ∧ wk iv L h0 (d + 1) 223 2 [lr l0, lr l1, li (l2 + 1)] [] s13 (qv F))) ∧ (aR s (fR s l0 1) l2 = 2 → (kl s l1 = 8) ∧ (-2147483648 ≤ l2 + 1 ∧ l2 + 1 ≤ 2147483647) ∧ wk iv L h0 (d + 1) 223 2 [lr l0, lr l1, li (l2 + 1)] [] (uR (uR (uR (uI s (aR s (fR s l0 0) l2) 4 (aI s (fR s l0 3) l2)) (aR s (fR s l0 0) l2) 12 2) (aR s (fR s l0 0) l2) 5 2) l1 1 (aR s (fR s l0 0) l2)) (qv F)))))) : wk iv L h0 (d + 1) 223 2 [lr l0, lr l1, li l2] [] s (qv F) := by
  refine w_iload_n rfl rfl ?_
  refine w_aload_n rfl rfl ?_
  obtain ⟨g1, H⟩ := H
  refine c_get rfl rfl rfl g1 ?_
  refine w_icmp_ge rfl (fun h => ?_) (fun h => ?_)
  · replace H := H.1 h
    refine w_aload_n rfl rfl ?_
    refine w_aload_n rfl rfl ?_
    refine c_getr rfl rfl rfl g1 ?_
    obtain ⟨g2, H⟩ := H
    refine c_putr rfl rfl rfl rfl g2 ?_
    exact w_ret rfl rfl ⟨rfl, H⟩
  · replace H := H.2 h
    refine w_aload_n rfl rfl ?_
    refine c_getr rfl rfl rfl g1 ?_
    refine w_iload_n rfl rfl ?_
    obtain ⟨g3, H⟩ := H
    obtain ⟨g4, H⟩ := H
    refine c_aald (t := 3) rfl ⟨g3, by decide, by decide⟩ g4 ?_
    refine w_astore_n rfl rfl ?_
    refine w_aload_n rfl rfl ?_
    refine w_aload_n rfl rfl ?_
    refine c_getr rfl rfl rfl g1 ?_
    refine w_iload_n rfl rfl ?_
    obtain ⟨g5, H⟩ := H
    obtain ⟨g6, H⟩ := H
    refine c_ald rfl g5 g6 ?_
    obtain ⟨g7, H⟩ := H
    refine c_put rfl rfl rfl rfl g7 ?_
    refine w_aload_n rfl rfl ?_
    refine w_null rfl ?_
    refine c_putr rfl rfl rfl rfl g7 ?_
    refine w_aload_n rfl rfl ?_
    refine c_getr rfl rfl rfl g1 ?_
    show wk iv L h0 (d + 1) 223 36 [lr l0, lr l1, li l2, lr (aR s (fR s l0 0) l2)] [vr (fR s l0 1)] (uR (uI s (aR s (fR s l0 0) l2) 4 (aI s (fR s l0 3) l2)) (aR s (fR s l0 0) l2) 12 2) (qv F)
    refine w_iload_n rfl rfl ?_
    obtain ⟨g8, H⟩ := H
    obtain ⟨g9, H⟩ := H
    refine c_aald (t := 3) rfl ⟨g8, by decide, by decide⟩ g9 ?_
    show wk iv L h0 (d + 1) 223 38 [lr l0, lr l1, li l2, lr (aR s (fR s l0 0) l2)] [vr (aR s (fR s l0 1) l2)] (uR (uI s (aR s (fR s l0 0) l2) 4 (aI s (fR s l0 3) l2)) (aR s (fR s l0 0) l2) 12 2) (qv F)
    refine c_nonnull rfl (fun h => ?_) (fun h => ?_)
    · replace H := H.1 h
      refine w_aload_n rfl rfl ?_
      refine c_getr rfl rfl rfl g1 ?_
      show wk iv L h0 (d + 1) 223 58 [lr l0, lr l1, li l2, lr (aR s (fR s l0 0) l2)] [vr (fR s l0 1)] (uR (uI s (aR s (fR s l0 0) l2) 4 (aI s (fR s l0 3) l2)) (aR s (fR s l0 0) l2) 12 2) (qv F)
      refine w_iload_n rfl rfl ?_
      refine c_aald (t := 3) rfl ⟨g8, by decide, by decide⟩ g9 ?_
      show wk iv L h0 (d + 1) 223 60 [lr l0, lr l1, li l2, lr (aR s (fR s l0 0) l2)] [vr (aR s (fR s l0 1) l2)] (uR (uI s (aR s (fR s l0 0) l2) 4 (aI s (fR s l0 3) l2)) (aR s (fR s l0 0) l2) 12 2) (qv F)
      refine w_aload_n rfl rfl ?_
      refine c_getr rfl rfl rfl g1 ?_
      show wk iv L h0 (d + 1) 223 64 [lr l0, lr l1, li l2, lr (aR s (fR s l0 0) l2)] [vr (fR s l0 2), vr (aR s (fR s l0 1) l2)] (uR (uI s (aR s (fR s l0 0) l2) 4 (aI s (fR s l0 3) l2)) (aR s (fR s l0 0) l2) 12 2) (qv F)
      refine w_iload_n rfl rfl ?_
      obtain ⟨g10, H⟩ := H
      obtain ⟨g11, H⟩ := H
      refine c_ald rfl g10 g11 ?_
      show wk iv L h0 (d + 1) 223 66 [lr l0, lr l1, li l2, lr (aR s (fR s l0 0) l2)] [vi (aI s (fR s l0 2) l2), vr (aR s (fR s l0 1) l2)] (uR (uI s (aR s (fR s l0 0) l2) 4 (aI s (fR s l0 3) l2)) (aR s (fR s l0 0) l2) 12 2) (qv F)
      refine w_aload_n rfl rfl ?_
      obtain ⟨g12, H⟩ := H
      refine c_virt (p := (aR s (fR s l0 1) l2)) (as := [vi (aI s (fR s l0 2) l2), vr (aR s (fR s l0 0) l2)]) (r := []) rfl rfl rfl rfl rfl rfl g12 (wc_mono H (Nat.le_refl _) ?_)
      rintro _ s13 ⟨rfl, H⟩
      show wk iv L h0 (d + 1) 223 70 [lr l0, lr l1, li l2, lr (aR s (fR s l0 0) l2)] [] s13 (qv F)
      obtain ⟨g14, H⟩ := H
      refine w_iinc rfl rfl rfl g14 ?_
      refine w_goto rfl ?_
      exact wp_ls (sl_s (sl_s (sl_s (sl_0)))) H
    · replace H := H.2 h
      refine w_aload_n rfl rfl ?_
      refine w_null rfl ?_
      refine c_putr rfl rfl rfl rfl g7 ?_
      refine w_aload_n rfl rfl ?_
      refine w_aload_n rfl rfl ?_
      obtain ⟨g15, H⟩ := H
      refine c_putr rfl rfl rfl rfl g15 ?_
      refine w_goto rfl ?_
      obtain ⟨g16, H⟩ := H
      refine w_iinc rfl rfl rfl g16 ?_
      refine w_goto rfl ?_
      exact wp_ls (sl_s (sl_s (sl_s (sl_0)))) H

/-- HoleDesk$Value.<init>()V -/
theorem C224 {iv : List (Int × Int)} {L : Nat} {h0 : MH} {d : Nat} {s : SC} {a0 : Nat} {F : SC → Prop} (H : (a0 ≠ 2) ∧ (kl s a0 = 10) ∧ F (uI (uR (uR (uR (uR (uI (uI s a0 0 0) a0 1 0) a0 2 2) a0 3 2) a0 4 2) a0 5 2) a0 6 0)) : ck iv L h0 d 224 [vr a0] s (qv F) := by
  show wk iv L h0 d 224 0 [lr a0] [] s (qv F)
  refine w_aload_n rfl rfl ?_
  obtain ⟨g1, H⟩ := H
  refine c_oinit rfl rfl g1 ?_
  refine w_aload_n rfl rfl ?_
  refine w_iconst (n := 0) rfl rfl ?_
  obtain ⟨g2, H⟩ := H
  refine c_put rfl rfl rfl rfl g2 ?_
  refine w_aload_n rfl rfl ?_
  refine w_iconst (n := 0) rfl rfl ?_
  refine c_put rfl rfl rfl rfl g2 ?_
  refine w_aload_n rfl rfl ?_
  refine w_null rfl ?_
  refine c_putr rfl rfl rfl rfl g2 ?_
  refine w_aload_n rfl rfl ?_
  refine w_null rfl ?_
  refine c_putr rfl rfl rfl rfl g2 ?_
  refine w_aload_n rfl rfl ?_
  refine w_null rfl ?_
  refine c_putr rfl rfl rfl rfl g2 ?_
  refine w_aload_n rfl rfl ?_
  refine w_null rfl ?_
  refine c_putr rfl rfl rfl rfl g2 ?_
  refine w_aload_n rfl rfl ?_
  refine w_iconst (n := 0) rfl rfl ?_
  refine c_putz rfl rfl rfl rfl (by decide) g2 ?_
  exact w_ret rfl rfl ⟨rfl, H⟩

/-- HoleDesk$Value.isLeft()Z -/
theorem C225 {iv : List (Int × Int)} {L : Nat} {h0 : MH} {d : Nat} {s : SC} {a0 : Nat} {F : Int → SC → Prop} (H : (kl s a0 = 10) ∧ ((fI s a0 0 < 4 → F 0 s) ∧ (4 ≤ fI s a0 0 → F 1 s))) : ck iv L h0 d 225 [vr a0] s (qi F) := by
  show wk iv L h0 d 225 0 [lr a0] [] s (qi F)
  refine w_aload_n rfl rfl ?_
  obtain ⟨g1, H⟩ := H
  refine c_get rfl rfl rfl g1 ?_
  refine w_iconst (n := 4) rfl rfl ?_
  refine w_icmp_lt rfl (fun h => ?_) (fun h => ?_)
  · replace H := H.1 h
    refine w_iconst (n := 0) rfl rfl ?_
    exact w_iretz rfl rfl (by decide) ⟨_, rfl, H⟩
  · replace H := H.2 h
    refine w_iconst (n := 1) rfl rfl ?_
    refine w_goto rfl ?_
    exact w_iretz rfl rfl (by decide) ⟨_, rfl, H⟩

/-- HoleDesk$Worker.<init>()V -/
theorem C226 {iv : List (Int × Int)} {L : Nat} {h0 : MH} {d : Nat} {s : SC} {a0 : Nat} {F : SC → Prop} (H : (a0 ≠ 2) ∧ (353 ≤ nxt s) ∧ (nxt s ≠ 2) ∧ ck iv L h0 d 193 [vr (nxt s)] (nO s 5) (qv fun s4 => (kl s4 a0 = 11) ∧ (353 ≤ nxt s4) ∧ (nxt s4 ≠ 2) ∧ ck iv L h0 d 193 [vr (nxt s4)] (nO (uR s4 a0 0 (nxt s)) 5) (qv fun s8 => (kl s8 a0 = 11) ∧ F (uR (uI (uI (uI (uI (uR s8 a0 1 (nxt s4)) a0 2 0) a0 3 0) a0 4 (-1)) a0 5 (-9)) a0 6 2)))) : ck iv L h0 (d + 1) 226 [vr a0] s (qv F) := by
  show wk iv L h0 (d + 1) 226 0 [lr a0] [] s (qv F)
  refine w_aload_n rfl rfl ?_
  obtain ⟨g1, H⟩ := H
  refine c_oinit rfl rfl g1 ?_
  refine w_aload_n rfl rfl ?_
  obtain ⟨g2, H⟩ := H
  refine c_new rfl rfl g2 ?_
  show wk iv L h0 (d + 1) 226 8 [lr a0] [vr (nxt s), vr a0] (nO s 5) (qv F)
  refine w_dup rfl rfl ?_
  obtain ⟨g3, H⟩ := H
  refine c_spec (p := (nxt s)) (as := []) (r := [vr (nxt s), vr a0]) rfl rfl rfl rfl rfl g3 (wc_mono H (Nat.le_refl _) ?_)
  rintro _ s4 ⟨rfl, H⟩
  show wk iv L h0 (d + 1) 226 12 [lr a0] [vr (nxt s), vr a0] s4 (qv F)
  obtain ⟨g5, H⟩ := H
  refine c_putr rfl rfl rfl rfl g5 ?_
  refine w_aload_n rfl rfl ?_
  obtain ⟨g6, H⟩ := H
  refine c_new rfl rfl g6 ?_
  show wk iv L h0 (d + 1) 226 19 [lr a0] [vr (nxt s4), vr a0] (nO (uR s4 a0 0 (nxt s)) 5) (qv F)
  refine w_dup rfl rfl ?_
  obtain ⟨g7, H⟩ := H
  refine c_spec (p := (nxt s4)) (as := []) (r := [vr (nxt s4), vr a0]) rfl rfl rfl rfl rfl g7 (wc_mono H (Nat.le_refl _) ?_)
  rintro _ s8 ⟨rfl, H⟩
  show wk iv L h0 (d + 1) 226 23 [lr a0] [vr (nxt s4), vr a0] s8 (qv F)
  obtain ⟨g9, H⟩ := H
  refine c_putr rfl rfl rfl rfl g9 ?_
  refine w_aload_n rfl rfl ?_
  refine w_iconst (n := 0) rfl rfl ?_
  refine c_put rfl rfl rfl rfl g9 ?_
  refine w_aload_n rfl rfl ?_
  refine w_iconst (n := 0) rfl rfl ?_
  refine c_put rfl rfl rfl rfl g9 ?_
  refine w_aload_n rfl rfl ?_
  refine w_iconst (n := (-1)) rfl rfl ?_
  refine c_put rfl rfl rfl rfl g9 ?_
  refine w_aload_n rfl rfl ?_
  refine w_bipush (n := (-9)) rfl rfl rfl ?_
  refine c_put rfl rfl rfl rfl g9 ?_
  refine w_aload_n rfl rfl ?_
  refine w_null rfl ?_
  refine c_putr rfl rfl rfl rfl g9 ?_
  exact w_ret rfl rfl ⟨rfl, H⟩

/-- HoleDesk$Worker.workAll(LHoleDesk$Node;I)I -/
theorem C227 {iv : List (Int × Int)} {L : Nat} {h0 : MH} {d : Nat} {s : SC} {a0 : Nat} {a1 : Nat} {a2 : Int} {F : Int → SC → Prop} (H : (kl s a0 = 11) ∧ ck iv L h0 d 230 [vr a0, vi a2] s (qv fun s2 => (kl s2 a0 = 11) ∧ ck iv L h0 d 234 [vr a0, vr a1, vr 2, vi 0] s2 (qa fun r5 s4 => (kl s4 a0 = 11) ∧ ck iv L h0 d 231 [vr a0, vr r5] s4 (qi fun r8 s7 => F r8 s7)))) : ck iv L h0 (d + 1) 227 [vr a0, vr a1, vi a2] s (qi F) := by
  show wk iv L h0 (d + 1) 227 0 [lr a0, lr a1, li a2] [] s (qi F)
  refine w_aload_n rfl rfl ?_
  refine w_iload_n rfl rfl ?_
  obtain ⟨g1, H⟩ := H
  refine c_virt (p := a0) (as := [vi a2]) (r := []) rfl rfl rfl rfl rfl rfl g1 (wc_mono H (Nat.le_refl _) ?_)
  rintro _ s2 ⟨rfl, H⟩
  show wk iv L h0 (d + 1) 227 5 [lr a0, lr a1, li a2] [] s2 (qi F)
  refine w_aload_n rfl rfl ?_
  refine w_aload_n rfl rfl ?_
  refine w_aload_n rfl rfl ?_
  refine w_null rfl ?_
  refine w_iconst (n := 0) rfl rfl ?_
  obtain ⟨g3, H⟩ := H
  refine c_virt (p := a0) (as := [vr a1, vr 2, vi 0]) (r := [vr a0]) rfl rfl rfl rfl rfl rfl g3 (wc_mono H (Nat.le_refl _) ?_)
  rintro _ s4 ⟨r5, rfl, H⟩
  show wk iv L h0 (d + 1) 227 13 [lr a0, lr a1, li a2] [vr r5, vr a0] s4 (qi F)
  obtain ⟨g6, H⟩ := H
  refine c_virt (p := a0) (as := [vr r5]) (r := []) rfl rfl rfl rfl rfl rfl g6 (wc_mono H (Nat.le_refl _) ?_)
  rintro _ s7 ⟨r8, rfl, H⟩
  show wk iv L h0 (d + 1) 227 16 [lr a0, lr a1, li a2] [vi r8] s7 (qi F)
  exact w_iret rfl rfl ⟨_, rfl, H⟩

/-- HoleDesk$Worker.goOnAll(I)I -/
theorem C228 {iv : List (Int × Int)} {L : Nat} {h0 : MH} {d : Nat} {s : SC} {a0 : Nat} {a1 : Int} {F : Int → SC → Prop} (H : (kl s a0 = 11) ∧ ck iv L h0 d 230 [vr a0, vi a1] s (qv fun s2 => (kl s2 a0 = 11) ∧ ck iv L h0 d 241 [vr a0, vr (fR s a0 6), vi 0] s2 (qa fun r5 s4 => (kl s4 a0 = 11) ∧ ck iv L h0 d 231 [vr a0, vr r5] s4 (qi fun r8 s7 => F r8 s7)))) : ck iv L h0 (d + 1) 228 [vr a0, vi a1] s (qi F) := by
  show wk iv L h0 (d + 1) 228 0 [lr a0, li a1] [] s (qi F)
  refine w_aload_n rfl rfl ?_
  obtain ⟨g1, H⟩ := H
  refine c_getr rfl rfl rfl g1 ?_
  refine w_astore_n rfl rfl ?_
  refine w_aload_n rfl rfl ?_
  refine w_iload_n rfl rfl ?_
  refine c_virt (p := a0) (as := [vi a1]) (r := []) rfl rfl rfl rfl rfl rfl g1 (wc_mono H (Nat.le_refl _) ?_)
  rintro _ s2 ⟨rfl, H⟩
  show wk iv L h0 (d + 1) 228 10 [lr a0, li a1, lr (fR s a0 6)] [] s2 (qi F)
  refine w_aload_n rfl rfl ?_
  refine w_aload_n rfl rfl ?_
  refine w_aload_n rfl rfl ?_
  refine w_iconst (n := 0) rfl rfl ?_
  obtain ⟨g3, H⟩ := H
  refine c_virt (p := a0) (as := [vr (fR s a0 6), vi 0]) (r := [vr a0]) rfl rfl rfl rfl rfl rfl g3 (wc_mono H (Nat.le_refl _) ?_)
  rintro _ s4 ⟨r5, rfl, H⟩
  show wk iv L h0 (d + 1) 228 17 [lr a0, li a1, lr (fR s a0 6)] [vr r5, vr a0] s4 (qi F)
  obtain ⟨g6, H⟩ := H
  refine c_virt (p := a0) (as := [vr r5]) (r := []) rfl rfl rfl rfl rfl rfl g6 (wc_mono H (Nat.le_refl _) ?_)
  rintro _ s7 ⟨r8, rfl, H⟩
  show wk iv L h0 (d + 1) 228 20 [lr a0, li a1, lr (fR s a0 6)] [vi r8] s7 (qi F)
  exact w_iret rfl rfl ⟨_, rfl, H⟩

/-- HoleDesk$Worker.lookUp(LHoleDesk$Seen;I)LHoleDesk$Value; -/
theorem C229 {iv : List (Int × Int)} {L : Nat} {h0 : MH} {d : Nat} {s : SC} {a0 : Nat} {a1 : Nat} {a2 : Int} {F : Nat → SC → Prop} (H : wk iv L h0 d 229 2 [ln, ln, li a2, lr a1] [] s (qa F)) : ck iv L h0 d 229 [vr a0, vr a1, vi a2] s (qa F) := by
  show wk iv L h0 d 229 0 [lr a0, lr a1, li a2] [] s (qa F)
  refine w_aload_n rfl rfl ?_
  refine w_astore_n rfl rfl ?_
  exact wp_ls (sl_n (sl_n (sl_s (sl_s (sl_0))))) H

/-- HoleDesk$Worker.lookUp(LHoleDesk$Seen;I)LHoleDesk$Value; at 2 -/
theorem C229_2 {iv : List (Int × Int)} {L : Nat} {h0 : MH} {d : Nat} {s : SC} {l2 : Int} {l3 : Nat} {F : Nat → SC → Prop} (H : ((l3 = 2 → F 2 s) ∧ (l3 ≠ 2 → (kl s l3 = 7) ∧ ((fI s l3 0 ≠ l2 → wk iv L h0 d 229 2 [ln, ln, li l2, lr (fR s l3 2)] [] s (qa F)) ∧ (fI s l3 0 = l2 → F (fR s l3 1) s))))) : wk iv L h0 d 229 2 [ln, ln, li l2, lr l3] [] s (qa F) := by
  refine w_aload_n rfl rfl ?_
  refine c_null rfl (fun h => ?_) (fun h => ?_)
  · replace H := H.1 h
    refine w_null rfl ?_
    exact w_aret rfl rfl ⟨_, rfl, H⟩
  · replace H := H.2 h
    refine w_aload_n rfl rfl ?_
    obtain ⟨g1, H⟩ := H
    refine c_get rfl rfl rfl g1 ?_
    refine w_iload_n rfl rfl ?_
    refine w_icmp_ne rfl (fun h => ?_) (fun h => ?_)
    · replace H := H.1 h
      refine w_aload_n rfl rfl ?_
      refine c_getr rfl rfl rfl g1 ?_
      refine w_astore_n rfl rfl ?_
      refine w_goto rfl ?_
      exact wp_ls (sl_n (sl_n (sl_s (sl_s (sl_0))))) H
    · replace H := H.2 h
      refine w_aload_n rfl rfl ?_
      refine c_getr rfl rfl rfl g1 ?_
      exact w_aret rfl rfl ⟨_, rfl, H⟩

/-- HoleDesk$Worker.start(I)V -/
theorem C230 {iv : List (Int × Int)} {L : Nat} {h0 : MH} {d : Nat} {s : SC} {a0 : Nat} {a1 : Int} {F : SC → Prop} (H : (kl s a0 = 11) ∧ (kl s (fR (uR s a0 0 (fR s a0 1)) a0 0) = 6) ∧ ck iv L h0 d 194 [vr (fR (uR s a0 0 (fR s a0 1)) a0 0)] (uR (uR s a0 0 (fR s a0 1)) a0 1 (fR s a0 0)) (qv fun s3 => (kl s3 a0 = 11) ∧ F (uI (uI (uI (uI s3 a0 2 a1) a0 3 0) a0 4 (-1)) a0 5 (-9)))) : ck iv L h0 (d + 1) 230 [vr a0, vi a1] s (qv F) := by
  show wk iv L h0 (d + 1) 230 0 [lr a0, li a1] [] s (qv F)
  refine w_aload_n rfl rfl ?_
  obtain ⟨g1, H⟩ := H
  refine c_getr rfl rfl rfl g1 ?_
  refine w_astore_n rfl rfl ?_
  refine w_aload_n rfl rfl ?_
  refine w_aload_n rfl rfl ?_
  refine c_getr rfl rfl rfl g1 ?_
  refine c_putr rfl rfl rfl rfl g1 ?_
  refine w_aload_n rfl rfl ?_
  refine w_aload_n rfl rfl ?_
  refine c_putr rfl rfl rfl rfl g1 ?_
  refine w_aload_n rfl rfl ?_
  refine c_getr rfl rfl rfl g1 ?_
  show wk iv L h0 (d + 1) 230 22 [lr a0, li a1, lr (fR s a0 0)] [vr (fR (uR s a0 0 (fR s a0 1)) a0 0)] (uR (uR s a0 0 (fR s a0 1)) a0 1 (fR s a0 0)) (qv F)
  obtain ⟨g2, H⟩ := H
  refine c_virt (p := (fR (uR s a0 0 (fR s a0 1)) a0 0)) (as := []) (r := []) rfl rfl rfl rfl rfl rfl g2 (wc_mono H (Nat.le_refl _) ?_)
  rintro _ s3 ⟨rfl, H⟩
  show wk iv L h0 (d + 1) 230 25 [lr a0, li a1, lr (fR s a0 0)] [] s3 (qv F)
  refine w_aload_n rfl rfl ?_
  refine w_iload_n rfl rfl ?_
  obtain ⟨g4, H⟩ := H
  refine c_put rfl rfl rfl rfl g4 ?_
  refine w_aload_n rfl rfl ?_
  refine w_iconst (n := 0) rfl rfl ?_
  refine c_put rfl rfl rfl rfl g4 ?_
  refine w_aload_n rfl rfl ?_
  refine w_iconst (n := (-1)) rfl rfl ?_
  refine c_put rfl rfl rfl rfl g4 ?_
  refine w_aload_n rfl rfl ?_
  refine w_bipush (n := (-9)) rfl rfl rfl ?_
  refine c_put rfl rfl rfl rfl g4 ?_
  exact w_ret rfl rfl ⟨rfl, H⟩

/-- HoleDesk$Worker.end(LHoleDesk$Value;)I -/
theorem C231 {iv : List (Int × Int)} {L : Nat} {h0 : MH} {d : Nat} {s : SC} {a0 : Nat} {a1 : Nat} {F : Int → SC → Prop} (H : (kl s a0 = 11) ∧ ((a1 = 2 → F (fI s a0 4) (uR s a0 6 a1)) ∧ (a1 ≠ 2 → (kl s a1 = 10) ∧ ((fI s a1 6 = 0 → F (fI (uI s a0 4 0) a0 4) (uI (uR s a0 6 a1) a0 4 0)) ∧ (fI s a1 6 ≠ 0 → F (fI (uI s a0 4 1) a0 4) (uI (uR s a0 6 a1) a0 4 1)))))) : ck iv L h0 d 231 [vr a0, vr a1] s (qi F) := by
  show wk iv L h0 d 231 0 [lr a0, lr a1] [] s (qi F)
  refine w_aload_n rfl rfl ?_
  refine w_aload_n rfl rfl ?_
  obtain ⟨g1, H⟩ := H
  refine c_putr rfl rfl rfl rfl g1 ?_
  refine w_aload_n rfl rfl ?_
  refine c_null rfl (fun h => ?_) (fun h => ?_)
  · replace H := H.1 h
    refine w_aload_n rfl rfl ?_
    refine c_get rfl rfl rfl g1 ?_
    show wk iv L h0 d 231 29 [lr a0, lr a1] [vi (fI s a0 4)] (uR s a0 6 a1) (qi F)
    exact w_iret rfl rfl ⟨_, rfl, H⟩
  · replace H := H.2 h
    refine w_aload_n rfl rfl ?_
    refine w_aload_n rfl rfl ?_
    obtain ⟨g2, H⟩ := H
    refine c_get rfl rfl rfl g2 ?_
    show wk iv L h0 d 231 14 [lr a0, lr a1] [vi (fI s a1 6), vr a0] (uR s a0 6 a1) (qi F)
    refine w_if_eq rfl (fun h => ?_) (fun h => ?_)
    · replace H := H.1 h
      refine w_iconst (n := 0) rfl rfl ?_
      refine c_put rfl rfl rfl rfl g1 ?_
      refine w_aload_n rfl rfl ?_
      refine c_get rfl rfl rfl g1 ?_
      show wk iv L h0 d 231 29 [lr a0, lr a1] [vi (fI (uI s a0 4 0) a0 4)] (uI (uR s a0 6 a1) a0 4 0) (qi F)
      exact w_iret rfl rfl ⟨_, rfl, H⟩
    · replace H := H.2 h
      refine w_iconst (n := 1) rfl rfl ?_
      refine w_goto rfl ?_
      refine c_put rfl rfl rfl rfl g1 ?_
      refine w_aload_n rfl rfl ?_
      refine c_get rfl rfl rfl g1 ?_
      show wk iv L h0 d 231 29 [lr a0, lr a1] [vi (fI (uI s a0 4 1) a0 4)] (uI (uR s a0 6 a1) a0 4 1) (qi F)
      exact w_iret rfl rfl ⟨_, rfl, H⟩

/-- HoleDesk$Worker.stop(II)LHoleDesk$Value; -/
theorem C232 {iv : List (Int × Int)} {L : Nat} {h0 : MH} {d : Nat} {s : SC} {a0 : Nat} {a1 : Int} {a2 : Int} {F : Nat → SC → Prop} (H : (kl s a0 = 11) ∧ F 2 (uI (uI s a0 4 a1) a0 5 a2)) : ck iv L h0 d 232 [vr a0, vi a1, vi a2] s (qa F) := by
  show wk iv L h0 d 232 0 [lr a0, li a1, li a2] [] s (qa F)
  refine w_aload_n rfl rfl ?_
  refine w_iload_n rfl rfl ?_
  obtain ⟨g1, H⟩ := H
  refine c_put rfl rfl rfl rfl g1 ?_
  refine w_aload_n rfl rfl ?_
  refine w_iload_n rfl rfl ?_
  refine c_put rfl rfl rfl rfl g1 ?_
  refine w_null rfl ?_
  exact w_aret rfl rfl ⟨_, rfl, H⟩

/-- HoleDesk$Worker.isSpent(I)Z -/
theorem C233 {iv : List (Int × Int)} {L : Nat} {h0 : MH} {d : Nat} {s : SC} {a0 : Nat} {a1 : Int} {F : Int → SC → Prop} (H : (kl s a0 = 11) ∧ ((fI s a0 2 ≤ fI s a0 3 → F 1 s) ∧ (fI s a0 3 < fI s a0 2 → ((a1 < 60 → F 0 s) ∧ (60 ≤ a1 → F 1 s))))) : ck iv L h0 d 233 [vr a0, vi a1] s (qi F) := by
  show wk iv L h0 d 233 0 [lr a0, li a1] [] s (qi F)
  refine w_aload_n rfl rfl ?_
  obtain ⟨g1, H⟩ := H
  refine c_get rfl rfl rfl g1 ?_
  refine w_aload_n rfl rfl ?_
  refine c_get rfl rfl rfl g1 ?_
  refine w_icmp_ge rfl (fun h => ?_) (fun h => ?_)
  · replace H := H.1 h
    refine w_iconst (n := 1) rfl rfl ?_
    refine w_goto rfl ?_
    exact w_iretz rfl rfl (by decide) ⟨_, rfl, H⟩
  · replace H := H.2 h
    refine w_iload_n rfl rfl ?_
    refine w_bipush (n := 60) rfl rfl rfl ?_
    refine w_icmp_lt rfl (fun h => ?_) (fun h => ?_)
    · replace H := H.1 h
      refine w_iconst (n := 0) rfl rfl ?_
      exact w_iretz rfl rfl (by decide) ⟨_, rfl, H⟩
    · replace H := H.2 h
      refine w_iconst (n := 1) rfl rfl ?_
      refine w_goto rfl ?_
      exact w_iretz rfl rfl (by decide) ⟨_, rfl, H⟩

/-- HoleDesk$Worker.begin(LHoleDesk$Node;LHoleDesk$Seen;I)LHoleDesk$Value; -/
theorem C234 {iv : List (Int × Int)} {L : Nat} {h0 : MH} {d : Nat} {s : SC} {a0 : Nat} {a1 : Nat} {a2 : Nat} {a3 : Int} {F : Nat → SC → Prop} (H : (kl s a0 = 11) ∧ ck iv L h0 d 233 [vr a0, vi a3] s (qi fun r3 s2 => ((r3 = 0 → (kl s2 a0 = 11) ∧ (-2147483648 ≤ (fI s2 a0 3) + 1 ∧ (fI s2 a0 3) + 1 ≤ 2147483647) ∧ (kl s2 a1 = 5) ∧ ((fI s2 a1 1 ≠ 3 → (-2147483648 ≤ a3 + 1 ∧ a3 + 1 ≤ 2147483647) ∧ ck iv L h0 d 236 [vr a0, vr a1, vr a2, vi (a3 + 1)] (uI s2 a0 3 ((fI s2 a0 3) + 1)) (qa fun r9 s8 => ((r9 = 2 → F r9 s8) ∧ (r9 ≠ 2 → (kl s8 a1 = 5) ∧ ((fI s8 a1 10 ≠ 0 → (kl s8 a0 = 11) ∧ (kl s8 (fR s8 a0 0) = 6) ∧ ck iv L h0 d 199 [vr (fR s8 a0 0), vr r9] s8 (qa fun r14 s13 => F r14 s13)) ∧ (fI s8 a1 10 = 0 → F r9 s8)))))) ∧ (fI s2 a1 1 = 3 → ck iv L h0 d 235 [vr a0, vr a1, vr a2] (uI s2 a0 3 ((fI s2 a0 3) + 1)) (qa fun r16 s15 => F r16 s15)))) ∧ (r3 ≠ 0 → (kl s2 a1 = 5) ∧ (kl s2 a0 = 11) ∧ ck iv L h0 d 232 [vr a0, vi 4, vi (fI s2 a1 0)] s2 (qa fun r20 s19 => F r20 s19))))) : ck iv L h0 (d + 1) 234 [vr a0, vr a1, vr a2, vi a3] s (qa F) := by
  show wk iv L h0 (d + 1) 234 0 [lr a0, lr a1, lr a2, li a3] [] s (qa F)
  refine w_aload_n rfl rfl ?_
  refine w_iload_n rfl rfl ?_
  obtain ⟨g1, H⟩ := H
  refine c_virt (p := a0) (as := [vi a3]) (r := []) rfl rfl rfl rfl rfl rfl g1 (wc_mono H (Nat.le_refl _) ?_)
  rintro _ s2 ⟨r3, rfl, H⟩
  show wk iv L h0 (d + 1) 234 5 [lr a0, lr a1, lr a2, li a3] [vi r3] s2 (qa F)
  refine w_if_eq rfl (fun h => ?_) (fun h => ?_)
  · replace H := H.1 h
    refine w_aload_n rfl rfl ?_
    refine w_dup rfl rfl ?_
    obtain ⟨g4, H⟩ := H
    refine c_get rfl rfl rfl g4 ?_
    refine w_iconst (n := 1) rfl rfl ?_
    obtain ⟨g5, H⟩ := H
    refine w_iadd rfl g5 ?_
    refine c_put rfl rfl rfl rfl g4 ?_
    refine w_aload_n rfl rfl ?_
    obtain ⟨g6, H⟩ := H
    refine c_get rfl rfl rfl g6 ?_
    show wk iv L h0 (d + 1) 234 32 [lr a0, lr a1, lr a2, li a3] [vi (fI s2 a1 1)] (uI s2 a0 3 ((fI s2 a0 3) + 1)) (qa F)
    refine w_iconst (n := 3) rfl rfl ?_
    refine w_icmp_ne rfl (fun h => ?_) (fun h => ?_)
    · replace H := H.1 h
      refine w_aload_n rfl rfl ?_
      refine w_aload_n rfl rfl ?_
      refine w_aload_n rfl rfl ?_
      refine w_iload_n rfl rfl ?_
      refine w_iconst (n := 1) rfl rfl ?_
      obtain ⟨g7, H⟩ := H
      refine w_iadd rfl g7 ?_
      refine c_virt (p := a0) (as := [vr a1, vr a2, vi (a3 + 1)]) (r := []) rfl rfl rfl rfl rfl rfl g4 (wc_mono H (Nat.le_refl _) ?_)
      rintro _ s8 ⟨r9, rfl, H⟩
      show wk iv L h0 (d + 1) 234 52 [lr a0, lr a1, lr a2, li a3] [vr r9] s8 (qa F)
      refine w_astore rfl rfl ?_
      refine w_aload rfl rfl ?_
      refine c_null rfl (fun h => ?_) (fun h => ?_)
      · replace H := H.1 h
        refine w_aload rfl rfl ?_
        refine w_goto rfl ?_
        exact w_aret rfl rfl ⟨_, rfl, H⟩
      · replace H := H.2 h
        refine w_aload_n rfl rfl ?_
        obtain ⟨g10, H⟩ := H
        refine c_get rfl rfl rfl g10 ?_
        refine w_if_ne rfl (fun h => ?_) (fun h => ?_)
        · replace H := H.1 h
          refine w_aload_n rfl rfl ?_
          obtain ⟨g11, H⟩ := H
          refine c_getr rfl rfl rfl g11 ?_
          refine w_aload rfl rfl ?_
          obtain ⟨g12, H⟩ := H
          refine c_virt (p := (fR s8 a0 0)) (as := [vr r9]) (r := []) rfl rfl rfl rfl rfl rfl g12 (wc_mono H (Nat.le_refl _) ?_)
          rintro _ s13 ⟨r14, rfl, H⟩
          show wk iv L h0 (d + 1) 234 80 [lr a0, lr a1, lr a2, li a3, lr r9] [vr r14] s13 (qa F)
          exact w_aret rfl rfl ⟨_, rfl, H⟩
        · replace H := H.2 h
          refine w_aload rfl rfl ?_
          refine w_goto rfl ?_
          exact w_aret rfl rfl ⟨_, rfl, H⟩
    · replace H := H.2 h
      refine w_aload_n rfl rfl ?_
      refine w_aload_n rfl rfl ?_
      refine w_aload_n rfl rfl ?_
      refine c_virt (p := a0) (as := [vr a1, vr a2]) (r := []) rfl rfl rfl rfl rfl rfl g4 (wc_mono H (Nat.le_refl _) ?_)
      rintro _ s15 ⟨r16, rfl, H⟩
      show wk iv L h0 (d + 1) 234 42 [lr a0, lr a1, lr a2, li a3] [vr r16] s15 (qa F)
      exact w_aret rfl rfl ⟨_, rfl, H⟩
  · replace H := H.2 h
    refine w_aload_n rfl rfl ?_
    refine w_iconst (n := 4) rfl rfl ?_
    refine w_aload_n rfl rfl ?_
    obtain ⟨g17, H⟩ := H
    refine c_get rfl rfl rfl g17 ?_
    obtain ⟨g18, H⟩ := H
    refine c_virt (p := a0) (as := [vi 4, vi (fI s2 a1 0)]) (r := []) rfl rfl rfl rfl rfl rfl g18 (wc_mono H (Nat.le_refl _) ?_)
    rintro _ s19 ⟨r20, rfl, H⟩
    show wk iv L h0 (d + 1) 234 17 [lr a0, lr a1, lr a2, li a3] [vr r20] s19 (qa F)
    exact w_aret rfl rfl ⟨_, rfl, H⟩

/-- HoleDesk$Worker.nameValue(LHoleDesk$Node;LHoleDesk$Seen;)LHoleDesk$Value; -/
theorem C235 {iv : List (Int × Int)} {L : Nat} {h0 : MH} {d : Nat} {s : SC} {a0 : Nat} {a1 : Nat} {a2 : Nat} {F : Nat → SC → Prop} (H : (kl s a1 = 5) ∧ ((fI s a1 10 ≠ 1 → (kl s a0 = 11) ∧ ck iv L h0 d 229 [vr a0, vr a2, vi (fI s a1 4)] s (qa fun r4 s3 => ((r4 ≠ 2 → (kl s3 a1 = 5) ∧ ((fI s3 a1 10 ≠ 0 → (kl s3 a0 = 11) ∧ (kl s3 (fR s3 a0 0) = 6) ∧ ck iv L h0 d 199 [vr (fR s3 a0 0), vr r4] s3 (qa fun r9 s8 => F r9 s8)) ∧ (fI s3 a1 10 = 0 → F r4 s3))) ∧ (r4 = 2 → (kl s3 a0 = 11) ∧ (kl s3 a1 = 5) ∧ (kl s3 (fR s3 a0 0) = 6) ∧ ck iv L h0 d 196 [vr (fR s3 a0 0), vi 5, vi (fI s3 a1 4)] s3 (qa fun r14 s13 => F r14 s13))))) ∧ (fI s a1 10 = 1 → (kl s a0 = 11) ∧ (kl s (fR s a0 0) = 6) ∧ ck iv L h0 d 196 [vr (fR s a0 0), vi 5, vi (fI s a1 4)] s (qa fun r18 s17 => F r18 s17)))) : ck iv L h0 (d + 1) 235 [vr a0, vr a1, vr a2] s (qa F) := by
  show wk iv L h0 (d + 1) 235 0 [lr a0, lr a1, lr a2] [] s (qa F)
  refine w_aload_n rfl rfl ?_
  obtain ⟨g1, H⟩ := H
  refine c_get rfl rfl rfl g1 ?_
  refine w_iconst (n := 1) rfl rfl ?_
  refine w_icmp_ne rfl (fun h => ?_) (fun h => ?_)
  · replace H := H.1 h
    refine w_aload_n rfl rfl ?_
    refine w_aload_n rfl rfl ?_
    refine w_aload_n rfl rfl ?_
    refine c_get rfl rfl rfl g1 ?_
    obtain ⟨g2, H⟩ := H
    refine c_virt (p := a0) (as := [vr a2, vi (fI s a1 4)]) (r := []) rfl rfl rfl rfl rfl rfl g2 (wc_mono H (Nat.le_refl _) ?_)
    rintro _ s3 ⟨r4, rfl, H⟩
    show wk iv L h0 (d + 1) 235 21 [lr a0, lr a1, lr a2] [vr r4] s3 (qa F)
    refine w_astore_n rfl rfl ?_
    refine w_aload_n rfl rfl ?_
    refine c_nonnull rfl (fun h => ?_) (fun h => ?_)
    · replace H := H.1 h
      refine w_aload_n rfl rfl ?_
      obtain ⟨g5, H⟩ := H
      refine c_get rfl rfl rfl g5 ?_
      refine w_if_ne rfl (fun h => ?_) (fun h => ?_)
      · replace H := H.1 h
        refine w_aload_n rfl rfl ?_
        obtain ⟨g6, H⟩ := H
        refine c_getr rfl rfl rfl g6 ?_
        refine w_aload_n rfl rfl ?_
        obtain ⟨g7, H⟩ := H
        refine c_virt (p := (fR s3 a0 0)) (as := [vr r4]) (r := []) rfl rfl rfl rfl rfl rfl g7 (wc_mono H (Nat.le_refl _) ?_)
        rintro _ s8 ⟨r9, rfl, H⟩
        show wk iv L h0 (d + 1) 235 58 [lr a0, lr a1, lr a2, lr r4] [vr r9] s8 (qa F)
        exact w_aret rfl rfl ⟨_, rfl, H⟩
      · replace H := H.2 h
        refine w_aload_n rfl rfl ?_
        refine w_goto rfl ?_
        exact w_aret rfl rfl ⟨_, rfl, H⟩
    · replace H := H.2 h
      refine w_aload_n rfl rfl ?_
      obtain ⟨g10, H⟩ := H
      refine c_getr rfl rfl rfl g10 ?_
      refine w_iconst (n := 5) rfl rfl ?_
      refine w_aload_n rfl rfl ?_
      obtain ⟨g11, H⟩ := H
      refine c_get rfl rfl rfl g11 ?_
      obtain ⟨g12, H⟩ := H
      refine c_virt (p := (fR s3 a0 0)) (as := [vi 5, vi (fI s3 a1 4)]) (r := []) rfl rfl rfl rfl rfl rfl g12 (wc_mono H (Nat.le_refl _) ?_)
      rintro _ s13 ⟨r14, rfl, H⟩
      show wk iv L h0 (d + 1) 235 38 [lr a0, lr a1, lr a2, lr r4] [vr r14] s13 (qa F)
      exact w_aret rfl rfl ⟨_, rfl, H⟩
  · replace H := H.2 h
    refine w_null rfl ?_
    refine w_goto rfl ?_
    refine w_astore_n rfl rfl ?_
    refine w_aload_n rfl rfl ?_
    refine c_nonnull rfl (fun h => absurd h (by decide)) (fun _ => ?_)
    refine w_aload_n rfl rfl ?_
    obtain ⟨g15, H⟩ := H
    refine c_getr rfl rfl rfl g15 ?_
    refine w_iconst (n := 5) rfl rfl ?_
    refine w_aload_n rfl rfl ?_
    refine c_get rfl rfl rfl g1 ?_
    obtain ⟨g16, H⟩ := H
    refine c_virt (p := (fR s a0 0)) (as := [vi 5, vi (fI s a1 4)]) (r := []) rfl rfl rfl rfl rfl rfl g16 (wc_mono H (Nat.le_refl _) ?_)
    rintro _ s17 ⟨r18, rfl, H⟩
    show wk iv L h0 (d + 1) 235 38 [lr a0, lr a1, lr a2, lr 2] [vr r18] s17 (qa F)
    exact w_aret rfl rfl ⟨_, rfl, H⟩

/-- HoleDesk$Worker.done(LHoleDesk$Node;LHoleDesk$Seen;I)LHoleDesk$Value; -/
theorem C236 {iv : List (Int × Int)} {L : Nat} {h0 : MH} {d : Nat} {s : SC} {a0 : Nat} {a1 : Nat} {a2 : Nat} {a3 : Int} {F : Nat → SC → Prop} (H : (kl s a1 = 5) ∧ ((fI s a1 1 = 0 → (kl s a0 = 11) ∧ (kl s (fR s a0 0) = 6) ∧ ck iv L h0 d 197 [vr (fR s a0 0), vi 4, vr a1, vr a2] s (qa fun r5 s4 => F r5 s4)) ∧ (fI s a1 1 = 1 → (kl s a0 = 11) ∧ (kl s (fR s a0 0) = 6) ∧ ck iv L h0 d 196 [vr (fR s a0 0), vi 0, vi (fI s a1 4)] s (qa fun r9 s8 => F r9 s8)) ∧ (fI s a1 1 = 2 → (kl s a0 = 11) ∧ (kl s (fR s a0 0) = 6) ∧ ck iv L h0 d 196 [vr (fR s a0 0), vi 1, vi (fI s a1 4)] s (qa fun r13 s12 => F r13 s12)) ∧ (fI s a1 1 = 3 ∨ fI s a1 1 = 4 ∨ fI s a1 1 = 5 ∨ fI s a1 1 = 6 ∨ fI s a1 1 = 7 ∨ fI s a1 1 < 0 ∨ 8 < fI s a1 1 → (kl s (fR s a1 3) = 103) ∧ ((0 : Int) ≤ 0 ∧ 0 < le s (fR s a1 3)) ∧ (kl s a0 = 11) ∧ ck iv L h0 d 234 [vr a0, vr (aR s (fR s a1 3) 0), vr a2, vi a3] s (qa fun r18 s17 => ((r18 = 2 → F r18 s17) ∧ (r18 ≠ 2 → (kl s17 a1 = 5) ∧ ((fI s17 a1 1 ≠ 15 → ((fI s17 a1 1 ≠ 10 → ck iv L h0 d 237 [vi (fI s17 a1 1)] s17 (qi fun r21 s20 => ((r21 = 0 → (kl s20 a0 = 11) ∧ ck iv L h0 d 239 [vr a0, vr a1, vr r18, vr 2, vr a2, vi a3] s20 (qa fun r24 s23 => F r24 s23)) ∧ (r21 ≠ 0 → (kl s20 a1 = 5) ∧ (kl s20 (fR s20 a1 3) = 103) ∧ ((0 : Int) ≤ 1 ∧ 1 < le s20 (fR s20 a1 3)) ∧ (kl s20 a0 = 11) ∧ ck iv L h0 d 234 [vr a0, vr (aR s20 (fR s20 a1 3) 1), vr a2, vi a3] s20 (qa fun r30 s29 => ((r30 ≠ 2 → (kl s29 a0 = 11) ∧ ck iv L h0 d 239 [vr a0, vr a1, vr r18, vr r30, vr a2, vi a3] s29 (qa fun r33 s32 => F r33 s32)) ∧ (r30 = 2 → F 2 s29))))))) ∧ (fI s17 a1 1 = 10 → (kl s17 (fR s17 a1 3) = 103) ∧ ((0 : Int) ≤ 1 ∧ 1 < le s17 (fR s17 a1 3)) ∧ (kl s17 a0 = 11) ∧ (kl s17 (fR s17 a0 0) = 6) ∧ ck iv L h0 d 201 [vr (fR s17 a0 0), vi (fI s17 a1 4), vr r18, vr a2] s17 (qa fun r39 s38 => (kl s38 a0 = 11) ∧ ck iv L h0 d 234 [vr a0, vr (aR s17 (fR s17 a1 3) 1), vr r39, vi a3] s38 (qa fun r42 s41 => F r42 s41))))) ∧ (fI s17 a1 1 = 15 → F r18 s17)))))) ∧ (fI s a1 1 = 8 → (kl s a0 = 11) ∧ (kl s (fR s a0 0) = 6) ∧ ck iv L h0 d 197 [vr (fR s a0 0), vi 2, vr a1, vr a2] s (qa fun r46 s45 => F r46 s45)))) : ck iv L h0 (d + 1) 236 [vr a0, vr a1, vr a2, vi a3] s (qa F) := by
  show wk iv L h0 (d + 1) 236 0 [lr a0, lr a1, lr a2, li a3] [] s (qa F)
  refine w_aload_n rfl rfl ?_
  obtain ⟨g1, H⟩ := H
  refine c_get rfl rfl rfl g1 ?_
  have J56 : (fI s a1 1 = 0) → wk iv L h0 (d + 1) 236 56 [lr a0, lr a1, lr a2, li a3] [] s (qa F) := fun h => by
    replace H := H.1 h
    refine w_aload_n rfl rfl ?_
    obtain ⟨g2, H⟩ := H
    refine c_getr rfl rfl rfl g2 ?_
    refine w_iconst (n := 4) rfl rfl ?_
    refine w_aload_n rfl rfl ?_
    refine w_aload_n rfl rfl ?_
    obtain ⟨g3, H⟩ := H
    refine c_virt (p := (fR s a0 0)) (as := [vi 4, vr a1, vr a2]) (r := []) rfl rfl rfl rfl rfl rfl g3 (wc_mono H (Nat.le_refl _) ?_)
    rintro _ s4 ⟨r5, rfl, H⟩
    show wk iv L h0 (d + 1) 236 66 [lr a0, lr a1, lr a2, li a3] [vr r5] s4 (qa F)
    exact w_aret rfl rfl ⟨_, rfl, H⟩
  have J67 : (fI s a1 1 = 1) → wk iv L h0 (d + 1) 236 67 [lr a0, lr a1, lr a2, li a3] [] s (qa F) := fun h => by
    replace H := H.2.1 h
    refine w_aload_n rfl rfl ?_
    obtain ⟨g6, H⟩ := H
    refine c_getr rfl rfl rfl g6 ?_
    refine w_iconst (n := 0) rfl rfl ?_
    refine w_aload_n rfl rfl ?_
    refine c_get rfl rfl rfl g1 ?_
    obtain ⟨g7, H⟩ := H
    refine c_virt (p := (fR s a0 0)) (as := [vi 0, vi (fI s a1 4)]) (r := []) rfl rfl rfl rfl rfl rfl g7 (wc_mono H (Nat.le_refl _) ?_)
    rintro _ s8 ⟨r9, rfl, H⟩
    show wk iv L h0 (d + 1) 236 79 [lr a0, lr a1, lr a2, li a3] [vr r9] s8 (qa F)
    exact w_aret rfl rfl ⟨_, rfl, H⟩
  have J80 : (fI s a1 1 = 2) → wk iv L h0 (d + 1) 236 80 [lr a0, lr a1, lr a2, li a3] [] s (qa F) := fun h => by
    replace H := H.2.2.1 h
    refine w_aload_n rfl rfl ?_
    obtain ⟨g10, H⟩ := H
    refine c_getr rfl rfl rfl g10 ?_
    refine w_iconst (n := 1) rfl rfl ?_
    refine w_aload_n rfl rfl ?_
    refine c_get rfl rfl rfl g1 ?_
    obtain ⟨g11, H⟩ := H
    refine c_virt (p := (fR s a0 0)) (as := [vi 1, vi (fI s a1 4)]) (r := []) rfl rfl rfl rfl rfl rfl g11 (wc_mono H (Nat.le_refl _) ?_)
    rintro _ s12 ⟨r13, rfl, H⟩
    show wk iv L h0 (d + 1) 236 92 [lr a0, lr a1, lr a2, li a3] [vr r13] s12 (qa F)
    exact w_aret rfl rfl ⟨_, rfl, H⟩
  have J104 : (fI s a1 1 = 3 ∨ fI s a1 1 = 4 ∨ fI s a1 1 = 5 ∨ fI s a1 1 = 6 ∨ fI s a1 1 = 7 ∨ fI s a1 1 < 0 ∨ 8 < fI s a1 1) → wk iv L h0 (d + 1) 236 104 [lr a0, lr a1, lr a2, li a3] [] s (qa F) := fun h => by
    replace H := H.2.2.2.1 h
    refine w_aload_n rfl rfl ?_
    refine w_aload_n rfl rfl ?_
    refine c_getr rfl rfl rfl g1 ?_
    refine w_iconst (n := 0) rfl rfl ?_
    obtain ⟨g14, H⟩ := H
    obtain ⟨g15, H⟩ := H
    refine c_aald (t := 3) rfl ⟨g14, by decide, by decide⟩ g15 ?_
    refine w_aload_n rfl rfl ?_
    refine w_iload_n rfl rfl ?_
    obtain ⟨g16, H⟩ := H
    refine c_virt (p := a0) (as := [vr (aR s (fR s a1 3) 0), vr a2, vi a3]) (r := []) rfl rfl rfl rfl rfl rfl g16 (wc_mono H (Nat.le_refl _) ?_)
    rintro _ s17 ⟨r18, rfl, H⟩
    show wk iv L h0 (d + 1) 236 116 [lr a0, lr a1, lr a2, li a3] [vr r18] s17 (qa F)
    refine w_astore rfl rfl ?_
    refine w_aload rfl rfl ?_
    refine c_null rfl (fun h => ?_) (fun h => ?_)
    · replace H := H.1 h
      refine w_aload rfl rfl ?_
      exact w_aret rfl rfl ⟨_, rfl, H⟩
    · replace H := H.2 h
      refine w_aload_n rfl rfl ?_
      obtain ⟨g19, H⟩ := H
      refine c_get rfl rfl rfl g19 ?_
      refine w_bipush (n := 15) rfl rfl rfl ?_
      refine w_icmp_ne rfl (fun h => ?_) (fun h => ?_)
      · replace H := H.1 h
        refine w_aload_n rfl rfl ?_
        refine c_get rfl rfl rfl g19 ?_
        refine w_bipush (n := 10) rfl rfl rfl ?_
        refine w_icmp_ne rfl (fun h => ?_) (fun h => ?_)
        · replace H := H.1 h
          refine w_null rfl ?_
          refine w_astore rfl rfl ?_
          refine w_aload_n rfl rfl ?_
          refine c_get rfl rfl rfl g19 ?_
          refine w_static (as := [vi (fI s17 a1 1)]) (r := []) rfl rfl rfl rfl rfl (wc_mono H (Nat.le_refl _) ?_)
          rintro _ s20 ⟨r21, rfl, H⟩
          show wk iv L h0 (d + 1) 236 180 [lr a0, lr a1, lr a2, li a3, lr r18, lr 2] [vi r21] s20 (qa F)
          refine w_if_eq rfl (fun h => ?_) (fun h => ?_)
          · replace H := H.1 h
            refine w_aload_n rfl rfl ?_
            refine w_aload_n rfl rfl ?_
            refine w_aload rfl rfl ?_
            refine w_aload rfl rfl ?_
            refine w_aload_n rfl rfl ?_
            refine w_iload_n rfl rfl ?_
            obtain ⟨g22, H⟩ := H
            refine c_virt (p := a0) (as := [vr a1, vr r18, vr 2, vr a2, vi a3]) (r := []) rfl rfl rfl rfl rfl rfl g22 (wc_mono H (Nat.le_refl _) ?_)
            rintro _ s23 ⟨r24, rfl, H⟩
            show wk iv L h0 (d + 1) 236 215 [lr a0, lr a1, lr a2, li a3, lr r18, lr 2] [vr r24] s23 (qa F)
            exact w_aret rfl rfl ⟨_, rfl, H⟩
          · replace H := H.2 h
            refine w_aload_n rfl rfl ?_
            refine w_aload_n rfl rfl ?_
            obtain ⟨g25, H⟩ := H
            refine c_getr rfl rfl rfl g25 ?_
            refine w_iconst (n := 1) rfl rfl ?_
            obtain ⟨g26, H⟩ := H
            obtain ⟨g27, H⟩ := H
            refine c_aald (t := 3) rfl ⟨g26, by decide, by decide⟩ g27 ?_
            refine w_aload_n rfl rfl ?_
            refine w_iload_n rfl rfl ?_
            obtain ⟨g28, H⟩ := H
            refine c_virt (p := a0) (as := [vr (aR s20 (fR s20 a1 3) 1), vr a2, vi a3]) (r := []) rfl rfl rfl rfl rfl rfl g28 (wc_mono H (Nat.le_refl _) ?_)
            rintro _ s29 ⟨r30, rfl, H⟩
            show wk iv L h0 (d + 1) 236 195 [lr a0, lr a1, lr a2, li a3, lr r18, lr 2] [vr r30] s29 (qa F)
            refine w_astore rfl rfl ?_
            refine w_aload rfl rfl ?_
            refine c_nonnull rfl (fun h => ?_) (fun h => ?_)
            · replace H := H.1 h
              refine w_aload_n rfl rfl ?_
              refine w_aload_n rfl rfl ?_
              refine w_aload rfl rfl ?_
              refine w_aload rfl rfl ?_
              refine w_aload_n rfl rfl ?_
              refine w_iload_n rfl rfl ?_
              obtain ⟨g31, H⟩ := H
              refine c_virt (p := a0) (as := [vr a1, vr r18, vr r30, vr a2, vi a3]) (r := []) rfl rfl rfl rfl rfl rfl g31 (wc_mono H (Nat.le_refl _) ?_)
              rintro _ s32 ⟨r33, rfl, H⟩
              show wk iv L h0 (d + 1) 236 215 [lr a0, lr a1, lr a2, li a3, lr r18, lr r30] [vr r33] s32 (qa F)
              exact w_aret rfl rfl ⟨_, rfl, H⟩
            · replace H := H.2 h
              refine w_null rfl ?_
              exact w_aret rfl rfl ⟨_, rfl, H⟩
        · replace H := H.2 h
          refine w_aload_n rfl rfl ?_
          refine w_aload_n rfl rfl ?_
          refine c_getr rfl rfl rfl g19 ?_
          refine w_iconst (n := 1) rfl rfl ?_
          obtain ⟨g34, H⟩ := H
          obtain ⟨g35, H⟩ := H
          refine c_aald (t := 3) rfl ⟨g34, by decide, by decide⟩ g35 ?_
          refine w_aload_n rfl rfl ?_
          obtain ⟨g36, H⟩ := H
          refine c_getr rfl rfl rfl g36 ?_
          refine w_aload_n rfl rfl ?_
          refine c_get rfl rfl rfl g19 ?_
          refine w_aload rfl rfl ?_
          refine w_aload_n rfl rfl ?_
          obtain ⟨g37, H⟩ := H
          refine c_virt (p := (fR s17 a0 0)) (as := [vi (fI s17 a1 4), vr r18, vr a2]) (r := [vr (aR s17 (fR s17 a1 3) 1), vr a0]) rfl rfl rfl rfl rfl rfl g37 (wc_mono H (Nat.le_refl _) ?_)
          rintro _ s38 ⟨r39, rfl, H⟩
          show wk iv L h0 (d + 1) 236 165 [lr a0, lr a1, lr a2, li a3, lr r18] [vr r39, vr (aR s17 (fR s17 a1 3) 1), vr a0] s38 (qa F)
          refine w_iload_n rfl rfl ?_
          obtain ⟨g40, H⟩ := H
          refine c_virt (p := a0) (as := [vr (aR s17 (fR s17 a1 3) 1), vr r39, vi a3]) (r := []) rfl rfl rfl rfl rfl rfl g40 (wc_mono H (Nat.le_refl _) ?_)
          rintro _ s41 ⟨r42, rfl, H⟩
          show wk iv L h0 (d + 1) 236 169 [lr a0, lr a1, lr a2, li a3, lr r18] [vr r42] s41 (qa F)
          exact w_aret rfl rfl ⟨_, rfl, H⟩
      · replace H := H.2 h
        refine w_aload rfl rfl ?_
        exact w_aret rfl rfl ⟨_, rfl, H⟩
  have J93 : (fI s a1 1 = 8) → wk iv L h0 (d + 1) 236 93 [lr a0, lr a1, lr a2, li a3] [] s (qa F) := fun h => by
    replace H := H.2.2.2.2 h
    refine w_aload_n rfl rfl ?_
    obtain ⟨g43, H⟩ := H
    refine c_getr rfl rfl rfl g43 ?_
    refine w_iconst (n := 2) rfl rfl ?_
    refine w_aload_n rfl rfl ?_
    refine w_aload_n rfl rfl ?_
    obtain ⟨g44, H⟩ := H
    refine c_virt (p := (fR s a0 0)) (as := [vi 2, vr a1, vr a2]) (r := []) rfl rfl rfl rfl rfl rfl g44 (wc_mono H (Nat.le_refl _) ?_)
    rintro _ s45 ⟨r46, rfl, H⟩
    show wk iv L h0 (d + 1) 236 103 [lr a0, lr a1, lr a2, li a3] [vr r46] s45 (qa F)
    exact w_aret rfl rfl ⟨_, rfl, H⟩
  refine w_tsw (td := 104) (ts := [56, 67, 80, 104, 104, 104, 104, 104, 93]) rfl rfl rfl rfl rfl rfl (fun h => J104 (by omega)) ?_
  exact swA_c (fun h => J56 (by omega)) (swA_c (fun h => J67 (by omega)) (swA_c (fun h => J80 (by omega)) (swA_c (fun h => J104 (by omega)) (swA_c (fun h => J104 (by omega)) (swA_c (fun h => J104 (by omega)) (swA_c (fun h => J104 (by omega)) (swA_c (fun h => J104 (by omega)) (swA_c (fun h => J93 (by omega)) (swA_n)))))))))

/-- HoleDesk$Worker.takesTwo(I)Z -/
theorem C237 {iv : List (Int × Int)} {L : Nat} {h0 : MH} {d : Nat} {s : SC} {a1 : Int} {F : Int → SC → Prop} (H : ((a1 = 9 → F 1 s) ∧ (a1 ≠ 9 → ((a1 = 12 → F 1 s) ∧ (a1 ≠ 12 → ck iv L h0 d 238 [vi a1] s (qi fun r2 s1 => ((r2 = 0 → F 0 s1) ∧ (r2 ≠ 0 → F 1 s1)))))))) : ck iv L h0 (d + 1) 237 [vi a1] s (qi F) := by
  show wk iv L h0 (d + 1) 237 0 [li a1] [] s (qi F)
  refine w_iload_n rfl rfl ?_
  refine w_bipush (n := 9) rfl rfl rfl ?_
  refine w_icmp_eq rfl (fun h => ?_) (fun h => ?_)
  · replace H := H.1 h
    refine w_iconst (n := 1) rfl rfl ?_
    refine w_goto rfl ?_
    exact w_iretz rfl rfl (by decide) ⟨_, rfl, H⟩
  · replace H := H.2 h
    refine w_iload_n rfl rfl ?_
    refine w_bipush (n := 12) rfl rfl rfl ?_
    refine w_icmp_eq rfl (fun h => ?_) (fun h => ?_)
    · replace H := H.1 h
      refine w_iconst (n := 1) rfl rfl ?_
      refine w_goto rfl ?_
      exact w_iretz rfl rfl (by decide) ⟨_, rfl, H⟩
    · replace H := H.2 h
      refine w_iload_n rfl rfl ?_
      refine w_static (as := [vi a1]) (r := []) rfl rfl rfl rfl rfl (wc_mono H (Nat.le_refl _) ?_)
      rintro _ s1 ⟨r2, rfl, H⟩
      show wk iv L h0 (d + 1) 237 16 [li a1] [vi r2] s1 (qi F)
      refine w_if_eq rfl (fun h => ?_) (fun h => ?_)
      · replace H := H.1 h
        refine w_iconst (n := 0) rfl rfl ?_
        exact w_iretz rfl rfl (by decide) ⟨_, rfl, H⟩
      · replace H := H.2 h
        refine w_iconst (n := 1) rfl rfl ?_
        refine w_goto rfl ?_
        exact w_iretz rfl rfl (by decide) ⟨_, rfl, H⟩

/-- HoleDesk$Worker.isReckoned(I)Z -/
theorem C238 {iv : List (Int × Int)} {L : Nat} {h0 : MH} {d : Nat} {s : SC} {a1 : Int} {F : Int → SC → Prop} (H : ((a1 < 4 → F 0 s) ∧ (4 ≤ a1 → ((7 < a1 → F 0 s) ∧ (a1 ≤ 7 → F 1 s))))) : ck iv L h0 d 238 [vi a1] s (qi F) := by
  show wk iv L h0 d 238 0 [li a1] [] s (qi F)
  refine w_iload_n rfl rfl ?_
  refine w_iconst (n := 4) rfl rfl ?_
  refine w_icmp_lt rfl (fun h => ?_) (fun h => ?_)
  · replace H := H.1 h
    refine w_iconst (n := 0) rfl rfl ?_
    exact w_iretz rfl rfl (by decide) ⟨_, rfl, H⟩
  · replace H := H.2 h
    refine w_iload_n rfl rfl ?_
    refine w_bipush (n := 7) rfl rfl rfl ?_
    refine w_icmp_gt rfl (fun h => ?_) (fun h => ?_)
    · replace H := H.1 h
      refine w_iconst (n := 0) rfl rfl ?_
      exact w_iretz rfl rfl (by decide) ⟨_, rfl, H⟩
    · replace H := H.2 h
      refine w_iconst (n := 1) rfl rfl ?_
      refine w_goto rfl ?_
      exact w_iretz rfl rfl (by decide) ⟨_, rfl, H⟩

/-- HoleDesk$Worker.act(LHoleDesk$Node;LHoleDesk$Value;LHoleDesk$Value;LHoleDesk$Seen;I)LHoleDesk$Value; -/
theorem C239 {iv : List (Int × Int)} {L : Nat} {h0 : MH} {d : Nat} {s : SC} {a0 : Nat} {a1 : Nat} {a2 : Nat} {a3 : Nat} {a4 : Nat} {a5 : Int} {F : Nat → SC → Prop} (H : (kl s a2 = 10) ∧ ck iv L h0 d 225 [vr a2] s (qi fun r3 s2 => (kl s2 a1 = 5) ∧ ((fI s2 a1 1 = 9 → (kl s2 a2 = 10) ∧ ((fI s2 a2 0 ≠ 2 → ((r3 = 0 → (kl s2 a0 = 11) ∧ ck iv L h0 d 232 [vr a0, vi 3, vi (fI s2 a1 0)] s2 (qa fun r8 s7 => F r8 s7)) ∧ (r3 ≠ 0 → (kl s2 a0 = 11) ∧ ((fI s2 a1 1 ≠ 11 → (kl s2 (fR s2 a0 0) = 6) ∧ ck iv L h0 d 200 [vr (fR s2 a0 0), vr a1, vr a2, vr a3, vr 2] s2 (qa fun r12 s11 => F r12 s11)) ∧ (fI s2 a1 1 = 11 → (kl s2 (fR s2 a0 0) = 6) ∧ ck iv L h0 d 200 [vr (fR s2 a0 0), vr a1, vr a2, vr a3, vr a4] s2 (qa fun r15 s14 => F r15 s14)))))) ∧ (fI s2 a2 0 = 2 → (kl s2 (fR s2 a2 2) = 5) ∧ (kl s2 (fR s2 (fR s2 a2 2) 3) = 103) ∧ ((0 : Int) ≤ 0 ∧ 0 < le s2 (fR s2 (fR s2 a2 2) 3)) ∧ (kl s2 a0 = 11) ∧ (kl s2 (fR s2 a0 0) = 6) ∧ ck iv L h0 d 201 [vr (fR s2 a0 0), vi (fI s2 (fR s2 a2 2) 4), vr a3, vr (fR s2 a2 5)] s2 (qa fun r22 s21 => (kl s21 a0 = 11) ∧ ck iv L h0 d 234 [vr a0, vr (aR s2 (fR s2 (fR s2 a2 2) 3) 0), vr r22, vi a5] s21 (qa fun r25 s24 => F r25 s24))))) ∧ (fI s2 a1 1 = 10 ∨ fI s2 a1 1 < 9 ∨ 14 < fI s2 a1 1 → ((a3 = 2 → ((r3 ≠ 0 → (kl s2 a0 = 11) ∧ ((fI s2 a1 1 ≠ 11 → (kl s2 (fR s2 a0 0) = 6) ∧ ck iv L h0 d 200 [vr (fR s2 a0 0), vr a1, vr a2, vr a3, vr 2] s2 (qa fun r29 s28 => F r29 s28)) ∧ (fI s2 a1 1 = 11 → (kl s2 (fR s2 a0 0) = 6) ∧ ck iv L h0 d 200 [vr (fR s2 a0 0), vr a1, vr a2, vr a3, vr a4] s2 (qa fun r32 s31 => F r32 s31)))) ∧ (r3 = 0 → ((a3 = 2 → (kl s2 a0 = 11) ∧ ck iv L h0 d 232 [vr a0, vi 3, vi (fI s2 a1 0)] s2 (qa fun r35 s34 => F r35 s34)) ∧ (a3 ≠ 2 → (kl s2 a3 = 10) ∧ ck iv L h0 d 225 [vr a3] s2 (qi fun r38 s37 => ((r38 = 0 → (kl s37 a1 = 5) ∧ (kl s37 a0 = 11) ∧ ck iv L h0 d 232 [vr a0, vi 3, vi (fI s37 a1 0)] s37 (qa fun r42 s41 => F r42 s41)) ∧ (r38 ≠ 0 → (kl s37 a0 = 11) ∧ (kl s37 a1 = 5) ∧ ((fI s37 a1 1 ≠ 11 → (kl s37 (fR s37 a0 0) = 6) ∧ ck iv L h0 d 200 [vr (fR s37 a0 0), vr a1, vr a2, vr a3, vr 2] s37 (qa fun r47 s46 => F r47 s46)) ∧ (fI s37 a1 1 = 11 → (kl s37 (fR s37 a0 0) = 6) ∧ ck iv L h0 d 200 [vr (fR s37 a0 0), vr a1, vr a2, vr a3, vr a4] s37 (qa fun r50 s49 => F r50 s49))))))))))) ∧ (a3 ≠ 2 → (kl s2 a2 = 10) ∧ ((fI s2 a2 0 ≠ 0 → ((r3 ≠ 0 → (kl s2 a0 = 11) ∧ ((fI s2 a1 1 ≠ 11 → (kl s2 (fR s2 a0 0) = 6) ∧ ck iv L h0 d 200 [vr (fR s2 a0 0), vr a1, vr a2, vr a3, vr 2] s2 (qa fun r55 s54 => F r55 s54)) ∧ (fI s2 a1 1 = 11 → (kl s2 (fR s2 a0 0) = 6) ∧ ck iv L h0 d 200 [vr (fR s2 a0 0), vr a1, vr a2, vr a3, vr a4] s2 (qa fun r58 s57 => F r58 s57)))) ∧ (r3 = 0 → ((a3 = 2 → (kl s2 a0 = 11) ∧ ck iv L h0 d 232 [vr a0, vi 3, vi (fI s2 a1 0)] s2 (qa fun r61 s60 => F r61 s60)) ∧ (a3 ≠ 2 → (kl s2 a3 = 10) ∧ ck iv L h0 d 225 [vr a3] s2 (qi fun r64 s63 => ((r64 = 0 → (kl s63 a1 = 5) ∧ (kl s63 a0 = 11) ∧ ck iv L h0 d 232 [vr a0, vi 3, vi (fI s63 a1 0)] s63 (qa fun r68 s67 => F r68 s67)) ∧ (r64 ≠ 0 → (kl s63 a0 = 11) ∧ (kl s63 a1 = 5) ∧ ((fI s63 a1 1 ≠ 11 → (kl s63 (fR s63 a0 0) = 6) ∧ ck iv L h0 d 200 [vr (fR s63 a0 0), vr a1, vr a2, vr a3, vr 2] s63 (qa fun r73 s72 => F r73 s72)) ∧ (fI s63 a1 1 = 11 → (kl s63 (fR s63 a0 0) = 6) ∧ ck iv L h0 d 200 [vr (fR s63 a0 0), vr a1, vr a2, vr a3, vr a4] s63 (qa fun r76 s75 => F r76 s75))))))))))) ∧ (fI s2 a2 0 = 0 → (kl s2 a3 = 10) ∧ ((fI s2 a3 0 ≠ 0 → ((r3 ≠ 0 → (kl s2 a0 = 11) ∧ ((fI s2 a1 1 ≠ 11 → (kl s2 (fR s2 a0 0) = 6) ∧ ck iv L h0 d 200 [vr (fR s2 a0 0), vr a1, vr a2, vr a3, vr 2] s2 (qa fun r81 s80 => F r81 s80)) ∧ (fI s2 a1 1 = 11 → (kl s2 (fR s2 a0 0) = 6) ∧ ck iv L h0 d 200 [vr (fR s2 a0 0), vr a1, vr a2, vr a3, vr a4] s2 (qa fun r84 s83 => F r84 s83)))) ∧ (r3 = 0 → ((a3 = 2 → (kl s2 a0 = 11) ∧ ck iv L h0 d 232 [vr a0, vi 3, vi (fI s2 a1 0)] s2 (qa fun r87 s86 => F r87 s86)) ∧ (a3 ≠ 2 → ck iv L h0 d 225 [vr a3] s2 (qi fun r89 s88 => ((r89 = 0 → (kl s88 a1 = 5) ∧ (kl s88 a0 = 11) ∧ ck iv L h0 d 232 [vr a0, vi 3, vi (fI s88 a1 0)] s88 (qa fun r93 s92 => F r93 s92)) ∧ (r89 ≠ 0 → (kl s88 a0 = 11) ∧ (kl s88 a1 = 5) ∧ ((fI s88 a1 1 ≠ 11 → (kl s88 (fR s88 a0 0) = 6) ∧ ck iv L h0 d 200 [vr (fR s88 a0 0), vr a1, vr a2, vr a3, vr 2] s88 (qa fun r98 s97 => F r98 s97)) ∧ (fI s88 a1 1 = 11 → (kl s88 (fR s88 a0 0) = 6) ∧ ck iv L h0 d 200 [vr (fR s88 a0 0), vr a1, vr a2, vr a3, vr a4] s88 (qa fun r101 s100 => F r101 s100))))))))))) ∧ (fI s2 a3 0 = 0 → (kl s2 a0 = 11) ∧ ck iv L h0 d 240 [vr a0, vr a1, vi (fI s2 a2 1), vi (fI s2 a3 1)] s2 (qa fun r104 s103 => F r104 s103)))))))) ∧ (fI s2 a1 1 = 11 → (kl s2 a2 = 10) ∧ ((fI s2 a2 0 ≠ 1 → ((r3 = 0 → (kl s2 a0 = 11) ∧ ck iv L h0 d 232 [vr a0, vi 3, vi (fI s2 a1 0)] s2 (qa fun r108 s107 => F r108 s107)) ∧ (r3 ≠ 0 → (kl s2 a0 = 11) ∧ ((fI s2 a1 1 ≠ 11 → (kl s2 (fR s2 a0 0) = 6) ∧ ck iv L h0 d 200 [vr (fR s2 a0 0), vr a1, vr a2, vr a3, vr 2] s2 (qa fun r112 s111 => F r112 s111)) ∧ (fI s2 a1 1 = 11 → (kl s2 (fR s2 a0 0) = 6) ∧ ck iv L h0 d 200 [vr (fR s2 a0 0), vr a1, vr a2, vr a3, vr a4] s2 (qa fun r115 s114 => F r115 s114)))))) ∧ (fI s2 a2 0 = 1 → ((fI s2 a2 1 ≠ 1 → (kl s2 (fR s2 a1 3) = 103) ∧ ((0 : Int) ≤ 2 ∧ 2 < le s2 (fR s2 a1 3)) ∧ (kl s2 a0 = 11) ∧ ck iv L h0 d 234 [vr a0, vr (aR s2 (fR s2 a1 3) 2), vr a4, vi a5] s2 (qa fun r120 s119 => F r120 s119)) ∧ (fI s2 a2 1 = 1 → (kl s2 (fR s2 a1 3) = 103) ∧ ((0 : Int) ≤ 1 ∧ 1 < le s2 (fR s2 a1 3)) ∧ (kl s2 a0 = 11) ∧ ck iv L h0 d 234 [vr a0, vr (aR s2 (fR s2 a1 3) 1), vr a4, vi a5] s2 (qa fun r125 s124 => F r125 s124)))))) ∧ (fI s2 a1 1 = 12 → ((a3 ≠ 2 → (kl s2 a0 = 11) ∧ (kl s2 (fR s2 a0 0) = 6) ∧ ck iv L h0 d 198 [vr (fR s2 a0 0), vr a2, vr a3] s2 (qa fun r129 s128 => F r129 s128)) ∧ (a3 = 2 → F 2 s2))) ∧ (fI s2 a1 1 = 13 ∨ fI s2 a1 1 = 14 → (kl s2 a2 = 10) ∧ ((fI s2 a2 0 ≠ 3 → ((r3 = 0 → (kl s2 a0 = 11) ∧ ck iv L h0 d 232 [vr a0, vi 3, vi (fI s2 a1 0)] s2 (qa fun r133 s132 => F r133 s132)) ∧ (r3 ≠ 0 → (kl s2 a0 = 11) ∧ ((fI s2 a1 1 ≠ 11 → (kl s2 (fR s2 a0 0) = 6) ∧ ck iv L h0 d 200 [vr (fR s2 a0 0), vr a1, vr a2, vr a3, vr 2] s2 (qa fun r137 s136 => F r137 s136)) ∧ (fI s2 a1 1 = 11 → (kl s2 (fR s2 a0 0) = 6) ∧ ck iv L h0 d 200 [vr (fR s2 a0 0), vr a1, vr a2, vr a3, vr a4] s2 (qa fun r140 s139 => F r140 s139)))))) ∧ (fI s2 a2 0 = 3 → ((fI s2 a1 1 ≠ 13 → F (fR s2 a2 4) s2) ∧ (fI s2 a1 1 = 13 → F (fR s2 a2 3) s2)))))))) : ck iv L h0 (d + 1) 239 [vr a0, vr a1, vr a2, vr a3, vr a4, vi a5] s (qa F) := by
  show wk iv L h0 (d + 1) 239 0 [lr a0, lr a1, lr a2, lr a3, lr a4, li a5] [] s (qa F)
  refine w_aload_n rfl rfl ?_
  obtain ⟨g1, H⟩ := H
  refine c_virt (p := a2) (as := []) (r := []) rfl rfl rfl rfl rfl rfl g1 (wc_mono H (Nat.le_refl _) ?_)
  rintro _ s2 ⟨r3, rfl, H⟩
  show wk iv L h0 (d + 1) 239 4 [lr a0, lr a1, lr a2, lr a3, lr a4, li a5] [vi r3] s2 (qa F)
  refine w_istore rfl rfl ?_
  refine w_aload_n rfl rfl ?_
  obtain ⟨g4, H⟩ := H
  refine c_get rfl rfl rfl g4 ?_
  have J66 : (fI s2 a1 1 = 9) → wk iv L h0 (d + 1) 239 66 [lr a0, lr a1, lr a2, lr a3, lr a4, li a5, li r3] [] s2 (qa F) := fun h => by
    replace H := H.1 h
    refine w_aload_n rfl rfl ?_
    obtain ⟨g5, H⟩ := H
    refine c_get rfl rfl rfl g5 ?_
    refine w_iconst (n := 2) rfl rfl ?_
    refine w_icmp_ne rfl (fun h => ?_) (fun h => ?_)
    · replace H := H.1 h
      refine w_iload rfl rfl ?_
      refine w_if_eq rfl (fun h => ?_) (fun h => ?_)
      · replace H := H.1 h
        refine w_aload_n rfl rfl ?_
        refine w_iconst (n := 3) rfl rfl ?_
        refine w_aload_n rfl rfl ?_
        refine c_get rfl rfl rfl g4 ?_
        obtain ⟨g6, H⟩ := H
        refine c_virt (p := a0) (as := [vi 3, vi (fI s2 a1 0)]) (r := []) rfl rfl rfl rfl rfl rfl g6 (wc_mono H (Nat.le_refl _) ?_)
        rintro _ s7 ⟨r8, rfl, H⟩
        show wk iv L h0 (d + 1) 239 270 [lr a0, lr a1, lr a2, lr a3, lr a4, li a5, li r3] [vr r8] s7 (qa F)
        exact w_aret rfl rfl ⟨_, rfl, H⟩
      · replace H := H.2 h
        refine w_aload_n rfl rfl ?_
        obtain ⟨g9, H⟩ := H
        refine c_getr rfl rfl rfl g9 ?_
        refine w_aload_n rfl rfl ?_
        refine w_aload_n rfl rfl ?_
        refine w_aload_n rfl rfl ?_
        refine w_aload_n rfl rfl ?_
        refine c_get rfl rfl rfl g4 ?_
        refine w_bipush (n := 11) rfl rfl rfl ?_
        refine w_icmp_ne rfl (fun h => ?_) (fun h => ?_)
        · replace H := H.1 h
          refine w_null rfl ?_
          obtain ⟨g10, H⟩ := H
          refine c_virt (p := (fR s2 a0 0)) (as := [vr a1, vr a2, vr a3, vr 2]) (r := []) rfl rfl rfl rfl rfl rfl g10 (wc_mono H (Nat.le_refl _) ?_)
          rintro _ s11 ⟨r12, rfl, H⟩
          show wk iv L h0 (d + 1) 239 258 [lr a0, lr a1, lr a2, lr a3, lr a4, li a5, li r3] [vr r12] s11 (qa F)
          refine w_goto rfl ?_
          exact w_aret rfl rfl ⟨_, rfl, H⟩
        · replace H := H.2 h
          refine w_aload rfl rfl ?_
          refine w_goto rfl ?_
          obtain ⟨g13, H⟩ := H
          refine c_virt (p := (fR s2 a0 0)) (as := [vr a1, vr a2, vr a3, vr a4]) (r := []) rfl rfl rfl rfl rfl rfl g13 (wc_mono H (Nat.le_refl _) ?_)
          rintro _ s14 ⟨r15, rfl, H⟩
          show wk iv L h0 (d + 1) 239 258 [lr a0, lr a1, lr a2, lr a3, lr a4, li a5, li r3] [vr r15] s14 (qa F)
          refine w_goto rfl ?_
          exact w_aret rfl rfl ⟨_, rfl, H⟩
    · replace H := H.2 h
      refine w_aload_n rfl rfl ?_
      refine w_aload_n rfl rfl ?_
      refine c_getr rfl rfl rfl g5 ?_
      obtain ⟨g16, H⟩ := H
      refine c_getr rfl rfl rfl g16 ?_
      refine w_iconst (n := 0) rfl rfl ?_
      obtain ⟨g17, H⟩ := H
      obtain ⟨g18, H⟩ := H
      refine c_aald (t := 3) rfl ⟨g17, by decide, by decide⟩ g18 ?_
      refine w_aload_n rfl rfl ?_
      obtain ⟨g19, H⟩ := H
      refine c_getr rfl rfl rfl g19 ?_
      refine w_aload_n rfl rfl ?_
      refine c_getr rfl rfl rfl g5 ?_
      refine c_get rfl rfl rfl g16 ?_
      refine w_aload_n rfl rfl ?_
      refine w_aload_n rfl rfl ?_
      refine c_getr rfl rfl rfl g5 ?_
      obtain ⟨g20, H⟩ := H
      refine c_virt (p := (fR s2 a0 0)) (as := [vi (fI s2 (fR s2 a2 2) 4), vr a3, vr (fR s2 a2 5)]) (r := [vr (aR s2 (fR s2 (fR s2 a2 2) 3) 0), vr a0]) rfl rfl rfl rfl rfl rfl g20 (wc_mono H (Nat.le_refl _) ?_)
      rintro _ s21 ⟨r22, rfl, H⟩
      show wk iv L h0 (d + 1) 239 103 [lr a0, lr a1, lr a2, lr a3, lr a4, li a5, li r3] [vr r22, vr (aR s2 (fR s2 (fR s2 a2 2) 3) 0), vr a0] s21 (qa F)
      refine w_iload rfl rfl ?_
      obtain ⟨g23, H⟩ := H
      refine c_virt (p := a0) (as := [vr (aR s2 (fR s2 (fR s2 a2 2) 3) 0), vr r22, vi a5]) (r := []) rfl rfl rfl rfl rfl rfl g23 (wc_mono H (Nat.le_refl _) ?_)
      rintro _ s24 ⟨r25, rfl, H⟩
      show wk iv L h0 (d + 1) 239 108 [lr a0, lr a1, lr a2, lr a3, lr a4, li a5, li r3] [vr r25] s24 (qa F)
      exact w_aret rfl rfl ⟨_, rfl, H⟩
  have J173 : (fI s2 a1 1 = 10 ∨ fI s2 a1 1 < 9 ∨ 14 < fI s2 a1 1) → wk iv L h0 (d + 1) 239 173 [lr a0, lr a1, lr a2, lr a3, lr a4, li a5, li r3] [] s2 (qa F) := fun h => by
    replace H := H.2.1 h
    refine w_aload_n rfl rfl ?_
    refine c_null rfl (fun h => ?_) (fun h => ?_)
    · replace H := H.1 h
      refine w_iload rfl rfl ?_
      refine w_if_ne rfl (fun h => ?_) (fun h => ?_)
      · replace H := H.1 h
        refine w_iconst (n := 1) rfl rfl ?_
        refine w_goto rfl ?_
        refine w_istore rfl rfl ?_
        refine w_iload rfl rfl ?_
        refine w_if_eq rfl (fun h => absurd h (by decide)) (fun _ => ?_)
        refine w_aload_n rfl rfl ?_
        obtain ⟨g26, H⟩ := H
        refine c_getr rfl rfl rfl g26 ?_
        refine w_aload_n rfl rfl ?_
        refine w_aload_n rfl rfl ?_
        refine w_aload_n rfl rfl ?_
        refine w_aload_n rfl rfl ?_
        refine c_get rfl rfl rfl g4 ?_
        refine w_bipush (n := 11) rfl rfl rfl ?_
        refine w_icmp_ne rfl (fun h => ?_) (fun h => ?_)
        · replace H := H.1 h
          refine w_null rfl ?_
          obtain ⟨g27, H⟩ := H
          refine c_virt (p := (fR s2 a0 0)) (as := [vr a1, vr a2, vr a3, vr 2]) (r := []) rfl rfl rfl rfl rfl rfl g27 (wc_mono H (Nat.le_refl _) ?_)
          rintro _ s28 ⟨r29, rfl, H⟩
          show wk iv L h0 (d + 1) 239 258 [lr a0, lr a1, lr a2, lr a3, lr a4, li a5, li 1] [vr r29] s28 (qa F)
          refine w_goto rfl ?_
          exact w_aret rfl rfl ⟨_, rfl, H⟩
        · replace H := H.2 h
          refine w_aload rfl rfl ?_
          refine w_goto rfl ?_
          obtain ⟨g30, H⟩ := H
          refine c_virt (p := (fR s2 a0 0)) (as := [vr a1, vr a2, vr a3, vr a4]) (r := []) rfl rfl rfl rfl rfl rfl g30 (wc_mono H (Nat.le_refl _) ?_)
          rintro _ s31 ⟨r32, rfl, H⟩
          show wk iv L h0 (d + 1) 239 258 [lr a0, lr a1, lr a2, lr a3, lr a4, li a5, li 1] [vr r32] s31 (qa F)
          refine w_goto rfl ?_
          exact w_aret rfl rfl ⟨_, rfl, H⟩
      · replace H := H.2 h
        refine w_aload_n rfl rfl ?_
        refine c_null rfl (fun h => ?_) (fun h => ?_)
        · replace H := H.1 h
          refine w_iconst (n := 0) rfl rfl ?_
          refine w_istore rfl rfl ?_
          refine w_iload rfl rfl ?_
          refine w_if_eq rfl (fun _ => ?_) (fun h => absurd h (by decide))
          refine w_aload_n rfl rfl ?_
          refine w_iconst (n := 3) rfl rfl ?_
          refine w_aload_n rfl rfl ?_
          refine c_get rfl rfl rfl g4 ?_
          obtain ⟨g33, H⟩ := H
          refine c_virt (p := a0) (as := [vi 3, vi (fI s2 a1 0)]) (r := []) rfl rfl rfl rfl rfl rfl g33 (wc_mono H (Nat.le_refl _) ?_)
          rintro _ s34 ⟨r35, rfl, H⟩
          show wk iv L h0 (d + 1) 239 270 [lr a0, lr a1, lr a2, lr a3, lr a4, li a5, li 0] [vr r35] s34 (qa F)
          exact w_aret rfl rfl ⟨_, rfl, H⟩
        · replace H := H.2 h
          refine w_aload_n rfl rfl ?_
          obtain ⟨g36, H⟩ := H
          refine c_virt (p := a3) (as := []) (r := []) rfl rfl rfl rfl rfl rfl g36 (wc_mono H (Nat.le_refl _) ?_)
          rintro _ s37 ⟨r38, rfl, H⟩
          show wk iv L h0 (d + 1) 239 218 [lr a0, lr a1, lr a2, lr a3, lr a4, li a5, li r3] [vi r38] s37 (qa F)
          refine w_if_eq rfl (fun h => ?_) (fun h => ?_)
          · replace H := H.1 h
            refine w_iconst (n := 0) rfl rfl ?_
            refine w_istore rfl rfl ?_
            refine w_iload rfl rfl ?_
            refine w_if_eq rfl (fun _ => ?_) (fun h => absurd h (by decide))
            refine w_aload_n rfl rfl ?_
            refine w_iconst (n := 3) rfl rfl ?_
            refine w_aload_n rfl rfl ?_
            obtain ⟨g39, H⟩ := H
            refine c_get rfl rfl rfl g39 ?_
            obtain ⟨g40, H⟩ := H
            refine c_virt (p := a0) (as := [vi 3, vi (fI s37 a1 0)]) (r := []) rfl rfl rfl rfl rfl rfl g40 (wc_mono H (Nat.le_refl _) ?_)
            rintro _ s41 ⟨r42, rfl, H⟩
            show wk iv L h0 (d + 1) 239 270 [lr a0, lr a1, lr a2, lr a3, lr a4, li a5, li 0] [vr r42] s41 (qa F)
            exact w_aret rfl rfl ⟨_, rfl, H⟩
          · replace H := H.2 h
            refine w_iconst (n := 1) rfl rfl ?_
            refine w_goto rfl ?_
            refine w_istore rfl rfl ?_
            refine w_iload rfl rfl ?_
            refine w_if_eq rfl (fun h => absurd h (by decide)) (fun _ => ?_)
            refine w_aload_n rfl rfl ?_
            obtain ⟨g43, H⟩ := H
            refine c_getr rfl rfl rfl g43 ?_
            refine w_aload_n rfl rfl ?_
            refine w_aload_n rfl rfl ?_
            refine w_aload_n rfl rfl ?_
            refine w_aload_n rfl rfl ?_
            obtain ⟨g44, H⟩ := H
            refine c_get rfl rfl rfl g44 ?_
            refine w_bipush (n := 11) rfl rfl rfl ?_
            refine w_icmp_ne rfl (fun h => ?_) (fun h => ?_)
            · replace H := H.1 h
              refine w_null rfl ?_
              obtain ⟨g45, H⟩ := H
              refine c_virt (p := (fR s37 a0 0)) (as := [vr a1, vr a2, vr a3, vr 2]) (r := []) rfl rfl rfl rfl rfl rfl g45 (wc_mono H (Nat.le_refl _) ?_)
              rintro _ s46 ⟨r47, rfl, H⟩
              show wk iv L h0 (d + 1) 239 258 [lr a0, lr a1, lr a2, lr a3, lr a4, li a5, li 1] [vr r47] s46 (qa F)
              refine w_goto rfl ?_
              exact w_aret rfl rfl ⟨_, rfl, H⟩
            · replace H := H.2 h
              refine w_aload rfl rfl ?_
              refine w_goto rfl ?_
              obtain ⟨g48, H⟩ := H
              refine c_virt (p := (fR s37 a0 0)) (as := [vr a1, vr a2, vr a3, vr a4]) (r := []) rfl rfl rfl rfl rfl rfl g48 (wc_mono H (Nat.le_refl _) ?_)
              rintro _ s49 ⟨r50, rfl, H⟩
              show wk iv L h0 (d + 1) 239 258 [lr a0, lr a1, lr a2, lr a3, lr a4, li a5, li 1] [vr r50] s49 (qa F)
              refine w_goto rfl ?_
              exact w_aret rfl rfl ⟨_, rfl, H⟩
    · replace H := H.2 h
      refine w_aload_n rfl rfl ?_
      obtain ⟨g51, H⟩ := H
      refine c_get rfl rfl rfl g51 ?_
      refine w_if_ne rfl (fun h => ?_) (fun h => ?_)
      · replace H := H.1 h
        refine w_iload rfl rfl ?_
        refine w_if_ne rfl (fun h => ?_) (fun h => ?_)
        · replace H := H.1 h
          refine w_iconst (n := 1) rfl rfl ?_
          refine w_goto rfl ?_
          refine w_istore rfl rfl ?_
          refine w_iload rfl rfl ?_
          refine w_if_eq rfl (fun h => absurd h (by decide)) (fun _ => ?_)
          refine w_aload_n rfl rfl ?_
          obtain ⟨g52, H⟩ := H
          refine c_getr rfl rfl rfl g52 ?_
          refine w_aload_n rfl rfl ?_
          refine w_aload_n rfl rfl ?_
          refine w_aload_n rfl rfl ?_
          refine w_aload_n rfl rfl ?_
          refine c_get rfl rfl rfl g4 ?_
          refine w_bipush (n := 11) rfl rfl rfl ?_
          refine w_icmp_ne rfl (fun h => ?_) (fun h => ?_)
          · replace H := H.1 h
            refine w_null rfl ?_
            obtain ⟨g53, H⟩ := H
            refine c_virt (p := (fR s2 a0 0)) (as := [vr a1, vr a2, vr a3, vr 2]) (r := []) rfl rfl rfl rfl rfl rfl g53 (wc_mono H (Nat.le_refl _) ?_)
            rintro _ s54 ⟨r55, rfl, H⟩
            show wk iv L h0 (d + 1) 239 258 [lr a0, lr a1, lr a2, lr a3, lr a4, li a5, li 1] [vr r55] s54 (qa F)
            refine w_goto rfl ?_
            exact w_aret rfl rfl ⟨_, rfl, H⟩
          · replace H := H.2 h
            refine w_aload rfl rfl ?_
            refine w_goto rfl ?_
            obtain ⟨g56, H⟩ := H
            refine c_virt (p := (fR s2 a0 0)) (as := [vr a1, vr a2, vr a3, vr a4]) (r := []) rfl rfl rfl rfl rfl rfl g56 (wc_mono H (Nat.le_refl _) ?_)
            rintro _ s57 ⟨r58, rfl, H⟩
            show wk iv L h0 (d + 1) 239 258 [lr a0, lr a1, lr a2, lr a3, lr a4, li a5, li 1] [vr r58] s57 (qa F)
            refine w_goto rfl ?_
            exact w_aret rfl rfl ⟨_, rfl, H⟩
        · replace H := H.2 h
          refine w_aload_n rfl rfl ?_
          refine c_null rfl (fun h => ?_) (fun h => ?_)
          · replace H := H.1 h
            refine w_iconst (n := 0) rfl rfl ?_
            refine w_istore rfl rfl ?_
            refine w_iload rfl rfl ?_
            refine w_if_eq rfl (fun _ => ?_) (fun h => absurd h (by decide))
            refine w_aload_n rfl rfl ?_
            refine w_iconst (n := 3) rfl rfl ?_
            refine w_aload_n rfl rfl ?_
            refine c_get rfl rfl rfl g4 ?_
            obtain ⟨g59, H⟩ := H
            refine c_virt (p := a0) (as := [vi 3, vi (fI s2 a1 0)]) (r := []) rfl rfl rfl rfl rfl rfl g59 (wc_mono H (Nat.le_refl _) ?_)
            rintro _ s60 ⟨r61, rfl, H⟩
            show wk iv L h0 (d + 1) 239 270 [lr a0, lr a1, lr a2, lr a3, lr a4, li a5, li 0] [vr r61] s60 (qa F)
            exact w_aret rfl rfl ⟨_, rfl, H⟩
          · replace H := H.2 h
            refine w_aload_n rfl rfl ?_
            obtain ⟨g62, H⟩ := H
            refine c_virt (p := a3) (as := []) (r := []) rfl rfl rfl rfl rfl rfl g62 (wc_mono H (Nat.le_refl _) ?_)
            rintro _ s63 ⟨r64, rfl, H⟩
            show wk iv L h0 (d + 1) 239 218 [lr a0, lr a1, lr a2, lr a3, lr a4, li a5, li r3] [vi r64] s63 (qa F)
            refine w_if_eq rfl (fun h => ?_) (fun h => ?_)
            · replace H := H.1 h
              refine w_iconst (n := 0) rfl rfl ?_
              refine w_istore rfl rfl ?_
              refine w_iload rfl rfl ?_
              refine w_if_eq rfl (fun _ => ?_) (fun h => absurd h (by decide))
              refine w_aload_n rfl rfl ?_
              refine w_iconst (n := 3) rfl rfl ?_
              refine w_aload_n rfl rfl ?_
              obtain ⟨g65, H⟩ := H
              refine c_get rfl rfl rfl g65 ?_
              obtain ⟨g66, H⟩ := H
              refine c_virt (p := a0) (as := [vi 3, vi (fI s63 a1 0)]) (r := []) rfl rfl rfl rfl rfl rfl g66 (wc_mono H (Nat.le_refl _) ?_)
              rintro _ s67 ⟨r68, rfl, H⟩
              show wk iv L h0 (d + 1) 239 270 [lr a0, lr a1, lr a2, lr a3, lr a4, li a5, li 0] [vr r68] s67 (qa F)
              exact w_aret rfl rfl ⟨_, rfl, H⟩
            · replace H := H.2 h
              refine w_iconst (n := 1) rfl rfl ?_
              refine w_goto rfl ?_
              refine w_istore rfl rfl ?_
              refine w_iload rfl rfl ?_
              refine w_if_eq rfl (fun h => absurd h (by decide)) (fun _ => ?_)
              refine w_aload_n rfl rfl ?_
              obtain ⟨g69, H⟩ := H
              refine c_getr rfl rfl rfl g69 ?_
              refine w_aload_n rfl rfl ?_
              refine w_aload_n rfl rfl ?_
              refine w_aload_n rfl rfl ?_
              refine w_aload_n rfl rfl ?_
              obtain ⟨g70, H⟩ := H
              refine c_get rfl rfl rfl g70 ?_
              refine w_bipush (n := 11) rfl rfl rfl ?_
              refine w_icmp_ne rfl (fun h => ?_) (fun h => ?_)
              · replace H := H.1 h
                refine w_null rfl ?_
                obtain ⟨g71, H⟩ := H
                refine c_virt (p := (fR s63 a0 0)) (as := [vr a1, vr a2, vr a3, vr 2]) (r := []) rfl rfl rfl rfl rfl rfl g71 (wc_mono H (Nat.le_refl _) ?_)
                rintro _ s72 ⟨r73, rfl, H⟩
                show wk iv L h0 (d + 1) 239 258 [lr a0, lr a1, lr a2, lr a3, lr a4, li a5, li 1] [vr r73] s72 (qa F)
                refine w_goto rfl ?_
                exact w_aret rfl rfl ⟨_, rfl, H⟩
              · replace H := H.2 h
                refine w_aload rfl rfl ?_
                refine w_goto rfl ?_
                obtain ⟨g74, H⟩ := H
                refine c_virt (p := (fR s63 a0 0)) (as := [vr a1, vr a2, vr a3, vr a4]) (r := []) rfl rfl rfl rfl rfl rfl g74 (wc_mono H (Nat.le_refl _) ?_)
                rintro _ s75 ⟨r76, rfl, H⟩
                show wk iv L h0 (d + 1) 239 258 [lr a0, lr a1, lr a2, lr a3, lr a4, li a5, li 1] [vr r76] s75 (qa F)
                refine w_goto rfl ?_
                exact w_aret rfl rfl ⟨_, rfl, H⟩
      · replace H := H.2 h
        refine w_aload_n rfl rfl ?_
        obtain ⟨g77, H⟩ := H
        refine c_get rfl rfl rfl g77 ?_
        refine w_if_ne rfl (fun h => ?_) (fun h => ?_)
        · replace H := H.1 h
          refine w_iload rfl rfl ?_
          refine w_if_ne rfl (fun h => ?_) (fun h => ?_)
          · replace H := H.1 h
            refine w_iconst (n := 1) rfl rfl ?_
            refine w_goto rfl ?_
            refine w_istore rfl rfl ?_
            refine w_iload rfl rfl ?_
            refine w_if_eq rfl (fun h => absurd h (by decide)) (fun _ => ?_)
            refine w_aload_n rfl rfl ?_
            obtain ⟨g78, H⟩ := H
            refine c_getr rfl rfl rfl g78 ?_
            refine w_aload_n rfl rfl ?_
            refine w_aload_n rfl rfl ?_
            refine w_aload_n rfl rfl ?_
            refine w_aload_n rfl rfl ?_
            refine c_get rfl rfl rfl g4 ?_
            refine w_bipush (n := 11) rfl rfl rfl ?_
            refine w_icmp_ne rfl (fun h => ?_) (fun h => ?_)
            · replace H := H.1 h
              refine w_null rfl ?_
              obtain ⟨g79, H⟩ := H
              refine c_virt (p := (fR s2 a0 0)) (as := [vr a1, vr a2, vr a3, vr 2]) (r := []) rfl rfl rfl rfl rfl rfl g79 (wc_mono H (Nat.le_refl _) ?_)
              rintro _ s80 ⟨r81, rfl, H⟩
              show wk iv L h0 (d + 1) 239 258 [lr a0, lr a1, lr a2, lr a3, lr a4, li a5, li 1] [vr r81] s80 (qa F)
              refine w_goto rfl ?_
              exact w_aret rfl rfl ⟨_, rfl, H⟩
            · replace H := H.2 h
              refine w_aload rfl rfl ?_
              refine w_goto rfl ?_
              obtain ⟨g82, H⟩ := H
              refine c_virt (p := (fR s2 a0 0)) (as := [vr a1, vr a2, vr a3, vr a4]) (r := []) rfl rfl rfl rfl rfl rfl g82 (wc_mono H (Nat.le_refl _) ?_)
              rintro _ s83 ⟨r84, rfl, H⟩
              show wk iv L h0 (d + 1) 239 258 [lr a0, lr a1, lr a2, lr a3, lr a4, li a5, li 1] [vr r84] s83 (qa F)
              refine w_goto rfl ?_
              exact w_aret rfl rfl ⟨_, rfl, H⟩
          · replace H := H.2 h
            refine w_aload_n rfl rfl ?_
            refine c_null rfl (fun h => ?_) (fun h => ?_)
            · replace H := H.1 h
              refine w_iconst (n := 0) rfl rfl ?_
              refine w_istore rfl rfl ?_
              refine w_iload rfl rfl ?_
              refine w_if_eq rfl (fun _ => ?_) (fun h => absurd h (by decide))
              refine w_aload_n rfl rfl ?_
              refine w_iconst (n := 3) rfl rfl ?_
              refine w_aload_n rfl rfl ?_
              refine c_get rfl rfl rfl g4 ?_
              obtain ⟨g85, H⟩ := H
              refine c_virt (p := a0) (as := [vi 3, vi (fI s2 a1 0)]) (r := []) rfl rfl rfl rfl rfl rfl g85 (wc_mono H (Nat.le_refl _) ?_)
              rintro _ s86 ⟨r87, rfl, H⟩
              show wk iv L h0 (d + 1) 239 270 [lr a0, lr a1, lr a2, lr a3, lr a4, li a5, li 0] [vr r87] s86 (qa F)
              exact w_aret rfl rfl ⟨_, rfl, H⟩
            · replace H := H.2 h
              refine w_aload_n rfl rfl ?_
              refine c_virt (p := a3) (as := []) (r := []) rfl rfl rfl rfl rfl rfl g77 (wc_mono H (Nat.le_refl _) ?_)
              rintro _ s88 ⟨r89, rfl, H⟩
              show wk iv L h0 (d + 1) 239 218 [lr a0, lr a1, lr a2, lr a3, lr a4, li a5, li r3] [vi r89] s88 (qa F)
              refine w_if_eq rfl (fun h => ?_) (fun h => ?_)
              · replace H := H.1 h
                refine w_iconst (n := 0) rfl rfl ?_
                refine w_istore rfl rfl ?_
                refine w_iload rfl rfl ?_
                refine w_if_eq rfl (fun _ => ?_) (fun h => absurd h (by decide))
                refine w_aload_n rfl rfl ?_
                refine w_iconst (n := 3) rfl rfl ?_
                refine w_aload_n rfl rfl ?_
                obtain ⟨g90, H⟩ := H
                refine c_get rfl rfl rfl g90 ?_
                obtain ⟨g91, H⟩ := H
                refine c_virt (p := a0) (as := [vi 3, vi (fI s88 a1 0)]) (r := []) rfl rfl rfl rfl rfl rfl g91 (wc_mono H (Nat.le_refl _) ?_)
                rintro _ s92 ⟨r93, rfl, H⟩
                show wk iv L h0 (d + 1) 239 270 [lr a0, lr a1, lr a2, lr a3, lr a4, li a5, li 0] [vr r93] s92 (qa F)
                exact w_aret rfl rfl ⟨_, rfl, H⟩
              · replace H := H.2 h
                refine w_iconst (n := 1) rfl rfl ?_
                refine w_goto rfl ?_
                refine w_istore rfl rfl ?_
                refine w_iload rfl rfl ?_
                refine w_if_eq rfl (fun h => absurd h (by decide)) (fun _ => ?_)
                refine w_aload_n rfl rfl ?_
                obtain ⟨g94, H⟩ := H
                refine c_getr rfl rfl rfl g94 ?_
                refine w_aload_n rfl rfl ?_
                refine w_aload_n rfl rfl ?_
                refine w_aload_n rfl rfl ?_
                refine w_aload_n rfl rfl ?_
                obtain ⟨g95, H⟩ := H
                refine c_get rfl rfl rfl g95 ?_
                refine w_bipush (n := 11) rfl rfl rfl ?_
                refine w_icmp_ne rfl (fun h => ?_) (fun h => ?_)
                · replace H := H.1 h
                  refine w_null rfl ?_
                  obtain ⟨g96, H⟩ := H
                  refine c_virt (p := (fR s88 a0 0)) (as := [vr a1, vr a2, vr a3, vr 2]) (r := []) rfl rfl rfl rfl rfl rfl g96 (wc_mono H (Nat.le_refl _) ?_)
                  rintro _ s97 ⟨r98, rfl, H⟩
                  show wk iv L h0 (d + 1) 239 258 [lr a0, lr a1, lr a2, lr a3, lr a4, li a5, li 1] [vr r98] s97 (qa F)
                  refine w_goto rfl ?_
                  exact w_aret rfl rfl ⟨_, rfl, H⟩
                · replace H := H.2 h
                  refine w_aload rfl rfl ?_
                  refine w_goto rfl ?_
                  obtain ⟨g99, H⟩ := H
                  refine c_virt (p := (fR s88 a0 0)) (as := [vr a1, vr a2, vr a3, vr a4]) (r := []) rfl rfl rfl rfl rfl rfl g99 (wc_mono H (Nat.le_refl _) ?_)
                  rintro _ s100 ⟨r101, rfl, H⟩
                  show wk iv L h0 (d + 1) 239 258 [lr a0, lr a1, lr a2, lr a3, lr a4, li a5, li 1] [vr r101] s100 (qa F)
                  refine w_goto rfl ?_
                  exact w_aret rfl rfl ⟨_, rfl, H⟩
        · replace H := H.2 h
          refine w_aload_n rfl rfl ?_
          refine w_aload_n rfl rfl ?_
          refine w_aload_n rfl rfl ?_
          refine c_get rfl rfl rfl g51 ?_
          refine w_aload_n rfl rfl ?_
          refine c_get rfl rfl rfl g77 ?_
          obtain ⟨g102, H⟩ := H
          refine c_virt (p := a0) (as := [vr a1, vi (fI s2 a2 1), vi (fI s2 a3 1)]) (r := []) rfl rfl rfl rfl rfl rfl g102 (wc_mono H (Nat.le_refl _) ?_)
          rintro _ s103 ⟨r104, rfl, H⟩
          show wk iv L h0 (d + 1) 239 204 [lr a0, lr a1, lr a2, lr a3, lr a4, li a5, li r3] [vr r104] s103 (qa F)
          exact w_aret rfl rfl ⟨_, rfl, H⟩
  have J109 : (fI s2 a1 1 = 11) → wk iv L h0 (d + 1) 239 109 [lr a0, lr a1, lr a2, lr a3, lr a4, li a5, li r3] [] s2 (qa F) := fun h => by
    replace H := H.2.2.1 h
    refine w_aload_n rfl rfl ?_
    obtain ⟨g105, H⟩ := H
    refine c_get rfl rfl rfl g105 ?_
    refine w_iconst (n := 1) rfl rfl ?_
    refine w_icmp_ne rfl (fun h => ?_) (fun h => ?_)
    · replace H := H.1 h
      refine w_iload rfl rfl ?_
      refine w_if_eq rfl (fun h => ?_) (fun h => ?_)
      · replace H := H.1 h
        refine w_aload_n rfl rfl ?_
        refine w_iconst (n := 3) rfl rfl ?_
        refine w_aload_n rfl rfl ?_
        refine c_get rfl rfl rfl g4 ?_
        obtain ⟨g106, H⟩ := H
        refine c_virt (p := a0) (as := [vi 3, vi (fI s2 a1 0)]) (r := []) rfl rfl rfl rfl rfl rfl g106 (wc_mono H (Nat.le_refl _) ?_)
        rintro _ s107 ⟨r108, rfl, H⟩
        show wk iv L h0 (d + 1) 239 270 [lr a0, lr a1, lr a2, lr a3, lr a4, li a5, li r3] [vr r108] s107 (qa F)
        exact w_aret rfl rfl ⟨_, rfl, H⟩
      · replace H := H.2 h
        refine w_aload_n rfl rfl ?_
        obtain ⟨g109, H⟩ := H
        refine c_getr rfl rfl rfl g109 ?_
        refine w_aload_n rfl rfl ?_
        refine w_aload_n rfl rfl ?_
        refine w_aload_n rfl rfl ?_
        refine w_aload_n rfl rfl ?_
        refine c_get rfl rfl rfl g4 ?_
        refine w_bipush (n := 11) rfl rfl rfl ?_
        refine w_icmp_ne rfl (fun h => ?_) (fun h => ?_)
        · replace H := H.1 h
          refine w_null rfl ?_
          obtain ⟨g110, H⟩ := H
          refine c_virt (p := (fR s2 a0 0)) (as := [vr a1, vr a2, vr a3, vr 2]) (r := []) rfl rfl rfl rfl rfl rfl g110 (wc_mono H (Nat.le_refl _) ?_)
          rintro _ s111 ⟨r112, rfl, H⟩
          show wk iv L h0 (d + 1) 239 258 [lr a0, lr a1, lr a2, lr a3, lr a4, li a5, li r3] [vr r112] s111 (qa F)
          refine w_goto rfl ?_
          exact w_aret rfl rfl ⟨_, rfl, H⟩
        · replace H := H.2 h
          refine w_aload rfl rfl ?_
          refine w_goto rfl ?_
          obtain ⟨g113, H⟩ := H
          refine c_virt (p := (fR s2 a0 0)) (as := [vr a1, vr a2, vr a3, vr a4]) (r := []) rfl rfl rfl rfl rfl rfl g113 (wc_mono H (Nat.le_refl _) ?_)
          rintro _ s114 ⟨r115, rfl, H⟩
          show wk iv L h0 (d + 1) 239 258 [lr a0, lr a1, lr a2, lr a3, lr a4, li a5, li r3] [vr r115] s114 (qa F)
          refine w_goto rfl ?_
          exact w_aret rfl rfl ⟨_, rfl, H⟩
    · replace H := H.2 h
      refine w_aload_n rfl rfl ?_
      refine w_aload_n rfl rfl ?_
      refine c_getr rfl rfl rfl g4 ?_
      refine w_aload_n rfl rfl ?_
      refine c_get rfl rfl rfl g105 ?_
      refine w_iconst (n := 1) rfl rfl ?_
      refine w_icmp_ne rfl (fun h => ?_) (fun h => ?_)
      · replace H := H.1 h
        refine w_iconst (n := 2) rfl rfl ?_
        obtain ⟨g116, H⟩ := H
        obtain ⟨g117, H⟩ := H
        refine c_aald (t := 3) rfl ⟨g116, by decide, by decide⟩ g117 ?_
        refine w_aload rfl rfl ?_
        refine w_iload rfl rfl ?_
        obtain ⟨g118, H⟩ := H
        refine c_virt (p := a0) (as := [vr (aR s2 (fR s2 a1 3) 2), vr a4, vi a5]) (r := []) rfl rfl rfl rfl rfl rfl g118 (wc_mono H (Nat.le_refl _) ?_)
        rintro _ s119 ⟨r120, rfl, H⟩
        show wk iv L h0 (d + 1) 239 143 [lr a0, lr a1, lr a2, lr a3, lr a4, li a5, li r3] [vr r120] s119 (qa F)
        exact w_aret rfl rfl ⟨_, rfl, H⟩
      · replace H := H.2 h
        refine w_iconst (n := 1) rfl rfl ?_
        refine w_goto rfl ?_
        obtain ⟨g121, H⟩ := H
        obtain ⟨g122, H⟩ := H
        refine c_aald (t := 3) rfl ⟨g121, by decide, by decide⟩ g122 ?_
        refine w_aload rfl rfl ?_
        refine w_iload rfl rfl ?_
        obtain ⟨g123, H⟩ := H
        refine c_virt (p := a0) (as := [vr (aR s2 (fR s2 a1 3) 1), vr a4, vi a5]) (r := []) rfl rfl rfl rfl rfl rfl g123 (wc_mono H (Nat.le_refl _) ?_)
        rintro _ s124 ⟨r125, rfl, H⟩
        show wk iv L h0 (d + 1) 239 143 [lr a0, lr a1, lr a2, lr a3, lr a4, li a5, li r3] [vr r125] s124 (qa F)
        exact w_aret rfl rfl ⟨_, rfl, H⟩
  have J48 : (fI s2 a1 1 = 12) → wk iv L h0 (d + 1) 239 48 [lr a0, lr a1, lr a2, lr a3, lr a4, li a5, li r3] [] s2 (qa F) := fun h => by
    replace H := H.2.2.2.1 h
    refine w_aload_n rfl rfl ?_
    refine c_nonnull rfl (fun h => ?_) (fun h => ?_)
    · replace H := H.1 h
      refine w_aload_n rfl rfl ?_
      obtain ⟨g126, H⟩ := H
      refine c_getr rfl rfl rfl g126 ?_
      refine w_aload_n rfl rfl ?_
      refine w_aload_n rfl rfl ?_
      obtain ⟨g127, H⟩ := H
      refine c_virt (p := (fR s2 a0 0)) (as := [vr a2, vr a3]) (r := []) rfl rfl rfl rfl rfl rfl g127 (wc_mono H (Nat.le_refl _) ?_)
      rintro _ s128 ⟨r129, rfl, H⟩
      show wk iv L h0 (d + 1) 239 65 [lr a0, lr a1, lr a2, lr a3, lr a4, li a5, li r3] [vr r129] s128 (qa F)
      exact w_aret rfl rfl ⟨_, rfl, H⟩
    · replace H := H.2 h
      refine w_null rfl ?_
      refine w_goto rfl ?_
      exact w_aret rfl rfl ⟨_, rfl, H⟩
  have J144 : (fI s2 a1 1 = 13 ∨ fI s2 a1 1 = 14) → wk iv L h0 (d + 1) 239 144 [lr a0, lr a1, lr a2, lr a3, lr a4, li a5, li r3] [] s2 (qa F) := fun h => by
    replace H := H.2.2.2.2 h
    refine w_aload_n rfl rfl ?_
    obtain ⟨g130, H⟩ := H
    refine c_get rfl rfl rfl g130 ?_
    refine w_iconst (n := 3) rfl rfl ?_
    refine w_icmp_ne rfl (fun h => ?_) (fun h => ?_)
    · replace H := H.1 h
      refine w_iload rfl rfl ?_
      refine w_if_eq rfl (fun h => ?_) (fun h => ?_)
      · replace H := H.1 h
        refine w_aload_n rfl rfl ?_
        refine w_iconst (n := 3) rfl rfl ?_
        refine w_aload_n rfl rfl ?_
        refine c_get rfl rfl rfl g4 ?_
        obtain ⟨g131, H⟩ := H
        refine c_virt (p := a0) (as := [vi 3, vi (fI s2 a1 0)]) (r := []) rfl rfl rfl rfl rfl rfl g131 (wc_mono H (Nat.le_refl _) ?_)
        rintro _ s132 ⟨r133, rfl, H⟩
        show wk iv L h0 (d + 1) 239 270 [lr a0, lr a1, lr a2, lr a3, lr a4, li a5, li r3] [vr r133] s132 (qa F)
        exact w_aret rfl rfl ⟨_, rfl, H⟩
      · replace H := H.2 h
        refine w_aload_n rfl rfl ?_
        obtain ⟨g134, H⟩ := H
        refine c_getr rfl rfl rfl g134 ?_
        refine w_aload_n rfl rfl ?_
        refine w_aload_n rfl rfl ?_
        refine w_aload_n rfl rfl ?_
        refine w_aload_n rfl rfl ?_
        refine c_get rfl rfl rfl g4 ?_
        refine w_bipush (n := 11) rfl rfl rfl ?_
        refine w_icmp_ne rfl (fun h => ?_) (fun h => ?_)
        · replace H := H.1 h
          refine w_null rfl ?_
          obtain ⟨g135, H⟩ := H
          refine c_virt (p := (fR s2 a0 0)) (as := [vr a1, vr a2, vr a3, vr 2]) (r := []) rfl rfl rfl rfl rfl rfl g135 (wc_mono H (Nat.le_refl _) ?_)
          rintro _ s136 ⟨r137, rfl, H⟩
          show wk iv L h0 (d + 1) 239 258 [lr a0, lr a1, lr a2, lr a3, lr a4, li a5, li r3] [vr r137] s136 (qa F)
          refine w_goto rfl ?_
          exact w_aret rfl rfl ⟨_, rfl, H⟩
        · replace H := H.2 h
          refine w_aload rfl rfl ?_
          refine w_goto rfl ?_
          obtain ⟨g138, H⟩ := H
          refine c_virt (p := (fR s2 a0 0)) (as := [vr a1, vr a2, vr a3, vr a4]) (r := []) rfl rfl rfl rfl rfl rfl g138 (wc_mono H (Nat.le_refl _) ?_)
          rintro _ s139 ⟨r140, rfl, H⟩
          show wk iv L h0 (d + 1) 239 258 [lr a0, lr a1, lr a2, lr a3, lr a4, li a5, li r3] [vr r140] s139 (qa F)
          refine w_goto rfl ?_
          exact w_aret rfl rfl ⟨_, rfl, H⟩
    · replace H := H.2 h
      refine w_aload_n rfl rfl ?_
      refine c_get rfl rfl rfl g4 ?_
      refine w_bipush (n := 13) rfl rfl rfl ?_
      refine w_icmp_ne rfl (fun h => ?_) (fun h => ?_)
      · replace H := H.1 h
        refine w_aload_n rfl rfl ?_
        refine c_getr rfl rfl rfl g130 ?_
        exact w_aret rfl rfl ⟨_, rfl, H⟩
      · replace H := H.2 h
        refine w_aload_n rfl rfl ?_
        refine c_getr rfl rfl rfl g130 ?_
        refine w_goto rfl ?_
        exact w_aret rfl rfl ⟨_, rfl, H⟩
  refine w_tsw (td := 173) (ts := [66, 173, 109, 48, 144, 144]) rfl rfl rfl rfl rfl rfl (fun h => J173 (by omega)) ?_
  exact swA_c (fun h => J66 (by omega)) (swA_c (fun h => J173 (by omega)) (swA_c (fun h => J109 (by omega)) (swA_c (fun h => J48 (by omega)) (swA_c (fun h => J144 (by omega)) (swA_c (fun h => J144 (by omega)) (swA_n))))))

/-- HoleDesk$Worker.reckon(LHoleDesk$Node;II)LHoleDesk$Value; -/
theorem C240 {iv : List (Int × Int)} {L : Nat} {h0 : MH} {d : Nat} {s : SC} {a0 : Nat} {a1 : Nat} {a2 : Int} {a3 : Int} {F : Nat → SC → Prop} (H : (kl s a1 = 5) ∧ ((fI s a1 1 = 4 → (kl s a0 = 11) ∧ (-2147483648 ≤ a2 + a3 ∧ a2 + a3 ≤ 2147483647) ∧ (kl s (fR s a0 0) = 6) ∧ ck iv L h0 d 196 [vr (fR s a0 0), vi 0, vi (a2 + a3)] s (qa fun r6 s5 => F r6 s5)) ∧ (fI s a1 1 = 5 → (kl s a0 = 11) ∧ (-2147483648 ≤ a2 * a3 ∧ a2 * a3 ≤ 2147483647) ∧ (kl s (fR s a0 0) = 6) ∧ ck iv L h0 d 196 [vr (fR s a0 0), vi 0, vi (a2 * a3)] s (qa fun r11 s10 => F r11 s10)) ∧ (fI s a1 1 = 6 → ((a3 ≠ 0 → (kl s a0 = 11) ∧ (a3 ≠ 0) ∧ (-2147483648 ≤ a2.tdiv a3 ∧ a2.tdiv a3 ≤ 2147483647) ∧ (kl s (fR s a0 0) = 6) ∧ ck iv L h0 d 196 [vr (fR s a0 0), vi 0, vi (a2.tdiv a3)] s (qa fun r17 s16 => F r17 s16)) ∧ (a3 = 0 → (kl s a0 = 11) ∧ ck iv L h0 d 232 [vr a0, vi 2, vi (fI s a1 0)] s (qa fun r20 s19 => F r20 s19)))) ∧ (fI s a1 1 < 4 ∨ 6 < fI s a1 1 → (kl s a0 = 11) ∧ ((a3 ≤ a2 → (kl s (fR s a0 0) = 6) ∧ ck iv L h0 d 196 [vr (fR s a0 0), vi 1, vi 0] s (qa fun r24 s23 => F r24 s23)) ∧ (a2 < a3 → (kl s (fR s a0 0) = 6) ∧ ck iv L h0 d 196 [vr (fR s a0 0), vi 1, vi 1] s (qa fun r27 s26 => F r27 s26)))))) : ck iv L h0 (d + 1) 240 [vr a0, vr a1, vi a2, vi a3] s (qa F) := by
  show wk iv L h0 (d + 1) 240 0 [lr a0, lr a1, li a2, li a3] [] s (qa F)
  refine w_aload_n rfl rfl ?_
  obtain ⟨g1, H⟩ := H
  refine c_get rfl rfl rfl g1 ?_
  have J32 : (fI s a1 1 = 4) → wk iv L h0 (d + 1) 240 32 [lr a0, lr a1, li a2, li a3] [] s (qa F) := fun h => by
    replace H := H.1 h
    refine w_aload_n rfl rfl ?_
    obtain ⟨g2, H⟩ := H
    refine c_getr rfl rfl rfl g2 ?_
    refine w_iconst (n := 0) rfl rfl ?_
    refine w_iload_n rfl rfl ?_
    refine w_iload_n rfl rfl ?_
    obtain ⟨g3, H⟩ := H
    refine w_iadd rfl g3 ?_
    obtain ⟨g4, H⟩ := H
    refine c_virt (p := (fR s a0 0)) (as := [vi 0, vi (a2 + a3)]) (r := []) rfl rfl rfl rfl rfl rfl g4 (wc_mono H (Nat.le_refl _) ?_)
    rintro _ s5 ⟨r6, rfl, H⟩
    show wk iv L h0 (d + 1) 240 43 [lr a0, lr a1, li a2, li a3] [vr r6] s5 (qa F)
    exact w_aret rfl rfl ⟨_, rfl, H⟩
  have J44 : (fI s a1 1 = 5) → wk iv L h0 (d + 1) 240 44 [lr a0, lr a1, li a2, li a3] [] s (qa F) := fun h => by
    replace H := H.2.1 h
    refine w_aload_n rfl rfl ?_
    obtain ⟨g7, H⟩ := H
    refine c_getr rfl rfl rfl g7 ?_
    refine w_iconst (n := 0) rfl rfl ?_
    refine w_iload_n rfl rfl ?_
    refine w_iload_n rfl rfl ?_
    obtain ⟨g8, H⟩ := H
    refine w_imul rfl g8 ?_
    obtain ⟨g9, H⟩ := H
    refine c_virt (p := (fR s a0 0)) (as := [vi 0, vi (a2 * a3)]) (r := []) rfl rfl rfl rfl rfl rfl g9 (wc_mono H (Nat.le_refl _) ?_)
    rintro _ s10 ⟨r11, rfl, H⟩
    show wk iv L h0 (d + 1) 240 55 [lr a0, lr a1, li a2, li a3] [vr r11] s10 (qa F)
    exact w_aret rfl rfl ⟨_, rfl, H⟩
  have J56 : (fI s a1 1 = 6) → wk iv L h0 (d + 1) 240 56 [lr a0, lr a1, li a2, li a3] [] s (qa F) := fun h => by
    replace H := H.2.2.1 h
    refine w_iload_n rfl rfl ?_
    refine w_if_ne rfl (fun h => ?_) (fun h => ?_)
    · replace H := H.1 h
      refine w_aload_n rfl rfl ?_
      obtain ⟨g12, H⟩ := H
      refine c_getr rfl rfl rfl g12 ?_
      refine w_iconst (n := 0) rfl rfl ?_
      refine w_iload_n rfl rfl ?_
      refine w_iload_n rfl rfl ?_
      obtain ⟨g13, H⟩ := H
      obtain ⟨g14, H⟩ := H
      refine w_idiv rfl g13 g14 ?_
      obtain ⟨g15, H⟩ := H
      refine c_virt (p := (fR s a0 0)) (as := [vi 0, vi (a2.tdiv a3)]) (r := []) rfl rfl rfl rfl rfl rfl g15 (wc_mono H (Nat.le_refl _) ?_)
      rintro _ s16 ⟨r17, rfl, H⟩
      show wk iv L h0 (d + 1) 240 83 [lr a0, lr a1, li a2, li a3] [vr r17] s16 (qa F)
      exact w_aret rfl rfl ⟨_, rfl, H⟩
    · replace H := H.2 h
      refine w_aload_n rfl rfl ?_
      refine w_iconst (n := 2) rfl rfl ?_
      refine w_aload_n rfl rfl ?_
      refine c_get rfl rfl rfl g1 ?_
      obtain ⟨g18, H⟩ := H
      refine c_virt (p := a0) (as := [vi 2, vi (fI s a1 0)]) (r := []) rfl rfl rfl rfl rfl rfl g18 (wc_mono H (Nat.le_refl _) ?_)
      rintro _ s19 ⟨r20, rfl, H⟩
      show wk iv L h0 (d + 1) 240 69 [lr a0, lr a1, li a2, li a3] [vr r20] s19 (qa F)
      refine w_goto rfl ?_
      exact w_aret rfl rfl ⟨_, rfl, H⟩
  have J84 : (fI s a1 1 < 4 ∨ 6 < fI s a1 1) → wk iv L h0 (d + 1) 240 84 [lr a0, lr a1, li a2, li a3] [] s (qa F) := fun h => by
    replace H := H.2.2.2 h
    refine w_aload_n rfl rfl ?_
    obtain ⟨g21, H⟩ := H
    refine c_getr rfl rfl rfl g21 ?_
    refine w_iconst (n := 1) rfl rfl ?_
    refine w_iload_n rfl rfl ?_
    refine w_iload_n rfl rfl ?_
    refine w_icmp_ge rfl (fun h => ?_) (fun h => ?_)
    · replace H := H.1 h
      refine w_iconst (n := 0) rfl rfl ?_
      obtain ⟨g22, H⟩ := H
      refine c_virt (p := (fR s a0 0)) (as := [vi 1, vi 0]) (r := []) rfl rfl rfl rfl rfl rfl g22 (wc_mono H (Nat.le_refl _) ?_)
      rintro _ s23 ⟨r24, rfl, H⟩
      show wk iv L h0 (d + 1) 240 102 [lr a0, lr a1, li a2, li a3] [vr r24] s23 (qa F)
      exact w_aret rfl rfl ⟨_, rfl, H⟩
    · replace H := H.2 h
      refine w_iconst (n := 1) rfl rfl ?_
      refine w_goto rfl ?_
      obtain ⟨g25, H⟩ := H
      refine c_virt (p := (fR s a0 0)) (as := [vi 1, vi 1]) (r := []) rfl rfl rfl rfl rfl rfl g25 (wc_mono H (Nat.le_refl _) ?_)
      rintro _ s26 ⟨r27, rfl, H⟩
      show wk iv L h0 (d + 1) 240 102 [lr a0, lr a1, li a2, li a3] [vr r27] s26 (qa F)
      exact w_aret rfl rfl ⟨_, rfl, H⟩
  refine w_tsw (td := 84) (ts := [32, 44, 56]) rfl rfl rfl rfl rfl rfl (fun h => J84 (by omega)) ?_
  exact swA_c (fun h => J32 (by omega)) (swA_c (fun h => J44 (by omega)) (swA_c (fun h => J56 (by omega)) (swA_n)))

/-- HoleDesk$Worker.goOn(LHoleDesk$Value;I)LHoleDesk$Value; -/
theorem C241 {iv : List (Int × Int)} {L : Nat} {h0 : MH} {d : Nat} {s : SC} {a0 : Nat} {a1 : Nat} {a2 : Int} {F : Nat → SC → Prop} (H : (kl s a0 = 11) ∧ ck iv L h0 d 233 [vr a0, vi a2] s (qi fun r3 s2 => ((r3 = 0 → (kl s2 a0 = 11) ∧ (-2147483648 ≤ (fI s2 a0 3) + 1 ∧ (fI s2 a0 3) + 1 ≤ 2147483647) ∧ (kl s2 a1 = 10) ∧ ((fI s2 a1 0 = 2 ∨ fI s2 a1 0 = 4 → (-2147483648 ≤ a2 + 1 ∧ a2 + 1 ≤ 2147483647) ∧ ck iv L h0 d 242 [vr a0, vr a1, vi (a2 + 1)] (uI s2 a0 3 ((fI s2 a0 3) + 1)) (qa fun r9 s8 => F r9 s8)) ∧ (fI s2 a1 0 = 3 ∨ fI s2 a1 0 = 7 → (-2147483648 ≤ a2 + 1 ∧ a2 + 1 ≤ 2147483647) ∧ ck iv L h0 d 243 [vr a0, vr a1, vi (a2 + 1)] (uI s2 a0 3 ((fI s2 a0 3) + 1)) (qa fun r12 s11 => F r12 s11)) ∧ (fI s2 a1 0 = 5 ∨ fI s2 a1 0 < 2 ∨ 7 < fI s2 a1 0 → (kl s2 (fR s2 a0 0) = 6) ∧ ck iv L h0 d 196 [vr (fR s2 a0 0), vi (fI s2 a1 0), vi (fI s2 a1 1)] (uI s2 a0 3 ((fI s2 a0 3) + 1)) (qa fun r15 s14 => F r15 s14)) ∧ (fI s2 a1 0 = 6 → (-2147483648 ≤ a2 + 1 ∧ a2 + 1 ≤ 2147483647) ∧ ck iv L h0 d 241 [vr a0, vr (fR s2 a1 3), vi (a2 + 1)] (uI s2 a0 3 ((fI s2 a0 3) + 1)) (qa fun r18 s17 => ((r18 ≠ 2 → (kl s17 a0 = 11) ∧ (kl s17 (fR s17 a0 0) = 6) ∧ ck iv L h0 d 199 [vr (fR s17 a0 0), vr r18] s17 (qa fun r22 s21 => F r22 s21)) ∧ (r18 = 2 → F 2 s17)))))) ∧ (r3 ≠ 0 → (kl s2 a0 = 11) ∧ ck iv L h0 d 232 [vr a0, vi 4, vi (-9)] s2 (qa fun r25 s24 => F r25 s24))))) : ck iv L h0 (d + 1) 241 [vr a0, vr a1, vi a2] s (qa F) := by
  show wk iv L h0 (d + 1) 241 0 [lr a0, lr a1, li a2] [] s (qa F)
  refine w_aload_n rfl rfl ?_
  refine w_iload_n rfl rfl ?_
  obtain ⟨g1, H⟩ := H
  refine c_virt (p := a0) (as := [vi a2]) (r := []) rfl rfl rfl rfl rfl rfl g1 (wc_mono H (Nat.le_refl _) ?_)
  rintro _ s2 ⟨r3, rfl, H⟩
  show wk iv L h0 (d + 1) 241 5 [lr a0, lr a1, li a2] [vi r3] s2 (qa F)
  refine w_if_eq rfl (fun h => ?_) (fun h => ?_)
  · replace H := H.1 h
    refine w_aload_n rfl rfl ?_
    refine w_dup rfl rfl ?_
    obtain ⟨g4, H⟩ := H
    refine c_get rfl rfl rfl g4 ?_
    refine w_iconst (n := 1) rfl rfl ?_
    obtain ⟨g5, H⟩ := H
    refine w_iadd rfl g5 ?_
    refine c_put rfl rfl rfl rfl g4 ?_
    refine w_aload_n rfl rfl ?_
    obtain ⟨g6, H⟩ := H
    refine c_get rfl rfl rfl g6 ?_
    show wk iv L h0 (d + 1) 241 30 [lr a0, lr a1, li a2] [vi (fI s2 a1 0)] (uI s2 a0 3 ((fI s2 a0 3) + 1)) (qa F)
    have J68 : (fI s2 a1 0 = 2 ∨ fI s2 a1 0 = 4) → wk iv L h0 (d + 1) 241 68 [lr a0, lr a1, li a2] [] (uI s2 a0 3 ((fI s2 a0 3) + 1)) (qa F) := fun h => by
      replace H := H.1 h
      refine w_aload_n rfl rfl ?_
      refine w_aload_n rfl rfl ?_
      refine w_iload_n rfl rfl ?_
      refine w_iconst (n := 1) rfl rfl ?_
      obtain ⟨g7, H⟩ := H
      refine w_iadd rfl g7 ?_
      refine c_virt (p := a0) (as := [vr a1, vi (a2 + 1)]) (r := []) rfl rfl rfl rfl rfl rfl g4 (wc_mono H (Nat.le_refl _) ?_)
      rintro _ s8 ⟨r9, rfl, H⟩
      show wk iv L h0 (d + 1) 241 76 [lr a0, lr a1, li a2] [vr r9] s8 (qa F)
      exact w_aret rfl rfl ⟨_, rfl, H⟩
    have J77 : (fI s2 a1 0 = 3 ∨ fI s2 a1 0 = 7) → wk iv L h0 (d + 1) 241 77 [lr a0, lr a1, li a2] [] (uI s2 a0 3 ((fI s2 a0 3) + 1)) (qa F) := fun h => by
      replace H := H.2.1 h
      refine w_aload_n rfl rfl ?_
      refine w_aload_n rfl rfl ?_
      refine w_iload_n rfl rfl ?_
      refine w_iconst (n := 1) rfl rfl ?_
      obtain ⟨g10, H⟩ := H
      refine w_iadd rfl g10 ?_
      refine c_virt (p := a0) (as := [vr a1, vi (a2 + 1)]) (r := []) rfl rfl rfl rfl rfl rfl g4 (wc_mono H (Nat.le_refl _) ?_)
      rintro _ s11 ⟨r12, rfl, H⟩
      show wk iv L h0 (d + 1) 241 85 [lr a0, lr a1, li a2] [vr r12] s11 (qa F)
      exact w_aret rfl rfl ⟨_, rfl, H⟩
    have J115 : (fI s2 a1 0 = 5 ∨ fI s2 a1 0 < 2 ∨ 7 < fI s2 a1 0) → wk iv L h0 (d + 1) 241 115 [lr a0, lr a1, li a2] [] (uI s2 a0 3 ((fI s2 a0 3) + 1)) (qa F) := fun h => by
      replace H := H.2.2.1 h
      refine w_aload_n rfl rfl ?_
      refine c_getr rfl rfl rfl g4 ?_
      show wk iv L h0 (d + 1) 241 119 [lr a0, lr a1, li a2] [vr (fR s2 a0 0)] (uI s2 a0 3 ((fI s2 a0 3) + 1)) (qa F)
      refine w_aload_n rfl rfl ?_
      refine c_get rfl rfl rfl g6 ?_
      show wk iv L h0 (d + 1) 241 123 [lr a0, lr a1, li a2] [vi (fI s2 a1 0), vr (fR s2 a0 0)] (uI s2 a0 3 ((fI s2 a0 3) + 1)) (qa F)
      refine w_aload_n rfl rfl ?_
      refine c_get rfl rfl rfl g6 ?_
      show wk iv L h0 (d + 1) 241 127 [lr a0, lr a1, li a2] [vi (fI s2 a1 1), vi (fI s2 a1 0), vr (fR s2 a0 0)] (uI s2 a0 3 ((fI s2 a0 3) + 1)) (qa F)
      obtain ⟨g13, H⟩ := H
      refine c_virt (p := (fR s2 a0 0)) (as := [vi (fI s2 a1 0), vi (fI s2 a1 1)]) (r := []) rfl rfl rfl rfl rfl rfl g13 (wc_mono H (Nat.le_refl _) ?_)
      rintro _ s14 ⟨r15, rfl, H⟩
      show wk iv L h0 (d + 1) 241 130 [lr a0, lr a1, li a2] [vr r15] s14 (qa F)
      exact w_aret rfl rfl ⟨_, rfl, H⟩
    have J86 : (fI s2 a1 0 = 6) → wk iv L h0 (d + 1) 241 86 [lr a0, lr a1, li a2] [] (uI s2 a0 3 ((fI s2 a0 3) + 1)) (qa F) := fun h => by
      replace H := H.2.2.2 h
      refine w_aload_n rfl rfl ?_
      refine w_aload_n rfl rfl ?_
      refine c_getr rfl rfl rfl g6 ?_
      show wk iv L h0 (d + 1) 241 91 [lr a0, lr a1, li a2] [vr (fR s2 a1 3), vr a0] (uI s2 a0 3 ((fI s2 a0 3) + 1)) (qa F)
      refine w_iload_n rfl rfl ?_
      refine w_iconst (n := 1) rfl rfl ?_
      obtain ⟨g16, H⟩ := H
      refine w_iadd rfl g16 ?_
      refine c_virt (p := a0) (as := [vr (fR s2 a1 3), vi (a2 + 1)]) (r := []) rfl rfl rfl rfl rfl rfl g4 (wc_mono H (Nat.le_refl _) ?_)
      rintro _ s17 ⟨r18, rfl, H⟩
      show wk iv L h0 (d + 1) 241 97 [lr a0, lr a1, li a2] [vr r18] s17 (qa F)
      refine w_astore_n rfl rfl ?_
      refine w_aload_n rfl rfl ?_
      refine c_nonnull rfl (fun h => ?_) (fun h => ?_)
      · replace H := H.1 h
        refine w_aload_n rfl rfl ?_
        obtain ⟨g19, H⟩ := H
        refine c_getr rfl rfl rfl g19 ?_
        refine w_aload_n rfl rfl ?_
        obtain ⟨g20, H⟩ := H
        refine c_virt (p := (fR s17 a0 0)) (as := [vr r18]) (r := []) rfl rfl rfl rfl rfl rfl g20 (wc_mono H (Nat.le_refl _) ?_)
        rintro _ s21 ⟨r22, rfl, H⟩
        show wk iv L h0 (d + 1) 241 114 [lr a0, lr a1, li a2, lr r18] [vr r22] s21 (qa F)
        exact w_aret rfl rfl ⟨_, rfl, H⟩
      · replace H := H.2 h
        refine w_null rfl ?_
        refine w_goto rfl ?_
        exact w_aret rfl rfl ⟨_, rfl, H⟩
    refine w_tsw (td := 115) (ts := [68, 77, 68, 115, 86, 77]) rfl rfl rfl rfl rfl rfl (fun h => J115 (by omega)) ?_
    exact swA_c (fun h => J68 (by omega)) (swA_c (fun h => J77 (by omega)) (swA_c (fun h => J68 (by omega)) (swA_c (fun h => J115 (by omega)) (swA_c (fun h => J86 (by omega)) (swA_c (fun h => J77 (by omega)) (swA_n))))))
  · replace H := H.2 h
    refine w_aload_n rfl rfl ?_
    refine w_iconst (n := 4) rfl rfl ?_
    refine w_bipush (n := (-9)) rfl rfl rfl ?_
    obtain ⟨g23, H⟩ := H
    refine c_virt (p := a0) (as := [vi 4, vi (-9)]) (r := []) rfl rfl rfl rfl rfl rfl g23 (wc_mono H (Nat.le_refl _) ?_)
    rintro _ s24 ⟨r25, rfl, H⟩
    show wk iv L h0 (d + 1) 241 15 [lr a0, lr a1, li a2] [vr r25] s24 (qa F)
    exact w_aret rfl rfl ⟨_, rfl, H⟩

/-- HoleDesk$Worker.goOnSeeing(LHoleDesk$Value;I)LHoleDesk$Value; -/
theorem C242 {iv : List (Int × Int)} {L : Nat} {h0 : MH} {d : Nat} {s : SC} {a0 : Nat} {a1 : Nat} {a2 : Int} {F : Nat → SC → Prop} (H : (kl s a1 = 10) ∧ (kl s a0 = 11) ∧ ck iv L h0 d 244 [vr a0, vr (fR s a1 5), vi a2] s (qa fun r4 s3 => (kl s3 a0 = 11) ∧ ((fI s3 a0 4 = (-1) → (kl s3 a1 = 10) ∧ (kl s3 (fR s3 a1 2) = 5) ∧ ck iv L h0 d 190 [vr (fR s3 a1 2)] s3 (qa fun r9 s8 => ((r9 ≠ 2 → (kl s8 a0 = 11) ∧ ck iv L h0 d 234 [vr a0, vr r9, vr r4, vi a2] s8 (qa fun r12 s11 => F r12 s11)) ∧ (r9 = 2 → (kl s8 a0 = 11) ∧ (kl s8 a1 = 10) ∧ (kl s8 (fR s8 a0 0) = 6) ∧ ck iv L h0 d 197 [vr (fR s8 a0 0), vi (fI s8 a1 0), vr (fR s8 a1 2), vr r4] s8 (qa fun r17 s16 => F r17 s16))))) ∧ (fI s3 a0 4 ≠ (-1) → F 2 s3)))) : ck iv L h0 (d + 1) 242 [vr a0, vr a1, vi a2] s (qa F) := by
  show wk iv L h0 (d + 1) 242 0 [lr a0, lr a1, li a2] [] s (qa F)
  refine w_aload_n rfl rfl ?_
  refine w_aload_n rfl rfl ?_
  obtain ⟨g1, H⟩ := H
  refine c_getr rfl rfl rfl g1 ?_
  refine w_iload_n rfl rfl ?_
  obtain ⟨g2, H⟩ := H
  refine c_virt (p := a0) (as := [vr (fR s a1 5), vi a2]) (r := []) rfl rfl rfl rfl rfl rfl g2 (wc_mono H (Nat.le_refl _) ?_)
  rintro _ s3 ⟨r4, rfl, H⟩
  show wk iv L h0 (d + 1) 242 9 [lr a0, lr a1, li a2] [vr r4] s3 (qa F)
  refine w_astore_n rfl rfl ?_
  refine w_aload_n rfl rfl ?_
  obtain ⟨g5, H⟩ := H
  refine c_get rfl rfl rfl g5 ?_
  refine w_iconst (n := (-1)) rfl rfl ?_
  refine w_icmp_eq rfl (fun h => ?_) (fun h => ?_)
  · replace H := H.1 h
    refine w_aload_n rfl rfl ?_
    obtain ⟨g6, H⟩ := H
    refine c_getr rfl rfl rfl g6 ?_
    obtain ⟨g7, H⟩ := H
    refine c_virt (p := (fR s3 a1 2)) (as := []) (r := []) rfl rfl rfl rfl rfl rfl g7 (wc_mono H (Nat.le_refl _) ?_)
    rintro _ s8 ⟨r9, rfl, H⟩
    show wk iv L h0 (d + 1) 242 27 [lr a0, lr a1, li a2, lr r4] [vr r9] s8 (qa F)
    refine w_astore rfl rfl ?_
    refine w_aload rfl rfl ?_
    refine c_nonnull rfl (fun h => ?_) (fun h => ?_)
    · replace H := H.1 h
      refine w_aload_n rfl rfl ?_
      refine w_aload rfl rfl ?_
      refine w_aload_n rfl rfl ?_
      refine w_iload_n rfl rfl ?_
      obtain ⟨g10, H⟩ := H
      refine c_virt (p := a0) (as := [vr r9, vr r4, vi a2]) (r := []) rfl rfl rfl rfl rfl rfl g10 (wc_mono H (Nat.le_refl _) ?_)
      rintro _ s11 ⟨r12, rfl, H⟩
      show wk iv L h0 (d + 1) 242 61 [lr a0, lr a1, li a2, lr r4, lr r9] [vr r12] s11 (qa F)
      exact w_aret rfl rfl ⟨_, rfl, H⟩
    · replace H := H.2 h
      refine w_aload_n rfl rfl ?_
      obtain ⟨g13, H⟩ := H
      refine c_getr rfl rfl rfl g13 ?_
      refine w_aload_n rfl rfl ?_
      obtain ⟨g14, H⟩ := H
      refine c_get rfl rfl rfl g14 ?_
      refine w_aload_n rfl rfl ?_
      refine c_getr rfl rfl rfl g14 ?_
      refine w_aload_n rfl rfl ?_
      obtain ⟨g15, H⟩ := H
      refine c_virt (p := (fR s8 a0 0)) (as := [vi (fI s8 a1 0), vr (fR s8 a1 2), vr r4]) (r := []) rfl rfl rfl rfl rfl rfl g15 (wc_mono H (Nat.le_refl _) ?_)
      rintro _ s16 ⟨r17, rfl, H⟩
      show wk iv L h0 (d + 1) 242 50 [lr a0, lr a1, li a2, lr r4, lr r9] [vr r17] s16 (qa F)
      refine w_goto rfl ?_
      exact w_aret rfl rfl ⟨_, rfl, H⟩
  · replace H := H.2 h
    refine w_null rfl ?_
    exact w_aret rfl rfl ⟨_, rfl, H⟩

/-- HoleDesk$Worker.goOnAct(LHoleDesk$Value;I)LHoleDesk$Value; -/
theorem C243 {iv : List (Int × Int)} {L : Nat} {h0 : MH} {d : Nat} {s : SC} {a0 : Nat} {a1 : Nat} {a2 : Int} {F : Nat → SC → Prop} (H : (kl s a1 = 10) ∧ (kl s a0 = 11) ∧ ck iv L h0 d 241 [vr a0, vr (fR s a1 3), vi a2] s (qa fun r4 s3 => ((r4 = 2 → ((r4 = 2 → F 2 s3) ∧ (r4 ≠ 2 → (kl s3 a1 = 10) ∧ ((fR s3 a1 4 = 2 → ((fI s3 a1 0 ≠ 3 → (kl s3 a0 = 11) ∧ ck iv L h0 d 244 [vr a0, vr (fR s3 a1 5), vi a2] s3 (qa fun r8 s7 => (kl s7 a0 = 11) ∧ ((fI s7 a0 4 ≠ (-1) → F 2 s7) ∧ (fI s7 a0 4 = (-1) → (kl s7 a1 = 10) ∧ ck iv L h0 d 239 [vr a0, vr (fR s7 a1 2), vr r4, vr 2, vr r8, vi a2] s7 (qa fun r12 s11 => F r12 s11))))) ∧ (fI s3 a1 0 = 3 → F 2 s3))) ∧ (fR s3 a1 4 ≠ 2 → F 2 s3))))) ∧ (r4 ≠ 2 → (kl s3 a1 = 10) ∧ ((fR s3 a1 4 ≠ 2 → (kl s3 a0 = 11) ∧ ck iv L h0 d 241 [vr a0, vr (fR s3 a1 4), vi a2] s3 (qa fun r16 s15 => ((r4 = 2 → F 2 s15) ∧ (r4 ≠ 2 → (kl s15 a1 = 10) ∧ ((fR s15 a1 4 = 2 → ((fI s15 a1 0 ≠ 3 → (kl s15 a0 = 11) ∧ ck iv L h0 d 244 [vr a0, vr (fR s15 a1 5), vi a2] s15 (qa fun r20 s19 => (kl s19 a0 = 11) ∧ ((fI s19 a0 4 ≠ (-1) → F 2 s19) ∧ (fI s19 a0 4 = (-1) → (kl s19 a1 = 10) ∧ ck iv L h0 d 239 [vr a0, vr (fR s19 a1 2), vr r4, vr r16, vr r20, vi a2] s19 (qa fun r24 s23 => F r24 s23))))) ∧ (fI s15 a1 0 = 3 → ((r16 ≠ 2 → (kl s15 a0 = 11) ∧ (kl s15 (fR s15 a0 0) = 6) ∧ ck iv L h0 d 198 [vr (fR s15 a0 0), vr r4, vr r16] s15 (qa fun r28 s27 => F r28 s27)) ∧ (r16 = 2 → F 2 s15))))) ∧ (fR s15 a1 4 ≠ 2 → ((r16 ≠ 2 → ((fI s15 a1 0 ≠ 3 → (kl s15 a0 = 11) ∧ ck iv L h0 d 244 [vr a0, vr (fR s15 a1 5), vi a2] s15 (qa fun r31 s30 => (kl s30 a0 = 11) ∧ ((fI s30 a0 4 ≠ (-1) → F 2 s30) ∧ (fI s30 a0 4 = (-1) → (kl s30 a1 = 10) ∧ ck iv L h0 d 239 [vr a0, vr (fR s30 a1 2), vr r4, vr r16, vr r31, vi a2] s30 (qa fun r35 s34 => F r35 s34))))) ∧ (fI s15 a1 0 = 3 → ((r16 ≠ 2 → (kl s15 a0 = 11) ∧ (kl s15 (fR s15 a0 0) = 6) ∧ ck iv L h0 d 198 [vr (fR s15 a0 0), vr r4, vr r16] s15 (qa fun r39 s38 => F r39 s38)) ∧ (r16 = 2 → F 2 s15))))) ∧ (r16 = 2 → F 2 s15)))))))) ∧ (fR s3 a1 4 = 2 → ((r4 = 2 → F 2 s3) ∧ (r4 ≠ 2 → ((fR s3 a1 4 = 2 → ((fI s3 a1 0 ≠ 3 → (kl s3 a0 = 11) ∧ ck iv L h0 d 244 [vr a0, vr (fR s3 a1 5), vi a2] s3 (qa fun r42 s41 => (kl s41 a0 = 11) ∧ ((fI s41 a0 4 ≠ (-1) → F 2 s41) ∧ (fI s41 a0 4 = (-1) → (kl s41 a1 = 10) ∧ ck iv L h0 d 239 [vr a0, vr (fR s41 a1 2), vr r4, vr 2, vr r42, vi a2] s41 (qa fun r46 s45 => F r46 s45))))) ∧ (fI s3 a1 0 = 3 → F 2 s3))) ∧ (fR s3 a1 4 ≠ 2 → F 2 s3)))))))))) : ck iv L h0 (d + 1) 243 [vr a0, vr a1, vi a2] s (qa F) := by
  show wk iv L h0 (d + 1) 243 0 [lr a0, lr a1, li a2] [] s (qa F)
  refine w_aload_n rfl rfl ?_
  refine w_aload_n rfl rfl ?_
  obtain ⟨g1, H⟩ := H
  refine c_getr rfl rfl rfl g1 ?_
  refine w_iload_n rfl rfl ?_
  obtain ⟨g2, H⟩ := H
  refine c_virt (p := a0) (as := [vr (fR s a1 3), vi a2]) (r := []) rfl rfl rfl rfl rfl rfl g2 (wc_mono H (Nat.le_refl _) ?_)
  rintro _ s3 ⟨r4, rfl, H⟩
  show wk iv L h0 (d + 1) 243 9 [lr a0, lr a1, li a2] [vr r4] s3 (qa F)
  refine w_astore_n rfl rfl ?_
  refine w_aload_n rfl rfl ?_
  refine c_null rfl (fun h => ?_) (fun h => ?_)
  · replace H := H.1 h
    refine w_null rfl ?_
    refine w_goto rfl ?_
    refine w_astore rfl rfl ?_
    refine w_aload_n rfl rfl ?_
    refine c_null rfl (fun h => ?_) (fun h => ?_)
    · replace H := H.1 h
      refine w_null rfl ?_
      exact w_aret rfl rfl ⟨_, rfl, H⟩
    · replace H := H.2 h
      refine w_aload_n rfl rfl ?_
      obtain ⟨g5, H⟩ := H
      refine c_getr rfl rfl rfl g5 ?_
      refine c_null rfl (fun h => ?_) (fun h => ?_)
      · replace H := H.1 h
        refine w_aload_n rfl rfl ?_
        refine c_get rfl rfl rfl g5 ?_
        refine w_iconst (n := 3) rfl rfl ?_
        refine w_icmp_ne rfl (fun h => ?_) (fun h => ?_)
        · replace H := H.1 h
          refine w_aload_n rfl rfl ?_
          refine w_aload_n rfl rfl ?_
          refine c_getr rfl rfl rfl g5 ?_
          refine w_iload_n rfl rfl ?_
          obtain ⟨g6, H⟩ := H
          refine c_virt (p := a0) (as := [vr (fR s3 a1 5), vi a2]) (r := []) rfl rfl rfl rfl rfl rfl g6 (wc_mono H (Nat.le_refl _) ?_)
          rintro _ s7 ⟨r8, rfl, H⟩
          show wk iv L h0 (d + 1) 243 91 [lr a0, lr a1, li a2, lr r4, lr 2] [vr r8] s7 (qa F)
          refine w_astore rfl rfl ?_
          refine w_aload_n rfl rfl ?_
          obtain ⟨g9, H⟩ := H
          refine c_get rfl rfl rfl g9 ?_
          refine w_iconst (n := (-1)) rfl rfl ?_
          refine w_icmp_ne rfl (fun h => ?_) (fun h => ?_)
          · replace H := H.1 h
            refine w_null rfl ?_
            exact w_aret rfl rfl ⟨_, rfl, H⟩
          · replace H := H.2 h
            refine w_aload_n rfl rfl ?_
            refine w_aload_n rfl rfl ?_
            obtain ⟨g10, H⟩ := H
            refine c_getr rfl rfl rfl g10 ?_
            refine w_aload_n rfl rfl ?_
            refine w_aload rfl rfl ?_
            refine w_aload rfl rfl ?_
            refine w_iload_n rfl rfl ?_
            refine c_virt (p := a0) (as := [vr (fR s7 a1 2), vr r4, vr 2, vr r8, vi a2]) (r := []) rfl rfl rfl rfl rfl rfl g9 (wc_mono H (Nat.le_refl _) ?_)
            rintro _ s11 ⟨r12, rfl, H⟩
            show wk iv L h0 (d + 1) 243 115 [lr a0, lr a1, li a2, lr r4, lr 2, lr r8] [vr r12] s11 (qa F)
            refine w_goto rfl ?_
            exact w_aret rfl rfl ⟨_, rfl, H⟩
        · replace H := H.2 h
          refine w_aload rfl rfl ?_
          refine c_nonnull rfl (fun h => absurd h (by decide)) (fun _ => ?_)
          refine w_null rfl ?_
          refine w_goto rfl ?_
          exact w_aret rfl rfl ⟨_, rfl, H⟩
      · replace H := H.2 h
        refine w_aload rfl rfl ?_
        refine c_nonnull rfl (fun h => absurd h (by decide)) (fun _ => ?_)
        refine w_null rfl ?_
        exact w_aret rfl rfl ⟨_, rfl, H⟩
  · replace H := H.2 h
    refine w_aload_n rfl rfl ?_
    obtain ⟨g13, H⟩ := H
    refine c_getr rfl rfl rfl g13 ?_
    refine c_nonnull rfl (fun h => ?_) (fun h => ?_)
    · replace H := H.1 h
      refine w_aload_n rfl rfl ?_
      refine w_aload_n rfl rfl ?_
      refine c_getr rfl rfl rfl g13 ?_
      refine w_iload_n rfl rfl ?_
      obtain ⟨g14, H⟩ := H
      refine c_virt (p := a0) (as := [vr (fR s3 a1 4), vi a2]) (r := []) rfl rfl rfl rfl rfl rfl g14 (wc_mono H (Nat.le_refl _) ?_)
      rintro _ s15 ⟨r16, rfl, H⟩
      show wk iv L h0 (d + 1) 243 34 [lr a0, lr a1, li a2, lr r4] [vr r16] s15 (qa F)
      refine w_astore rfl rfl ?_
      refine w_aload_n rfl rfl ?_
      refine c_null rfl (fun h => ?_) (fun h => ?_)
      · replace H := H.1 h
        refine w_null rfl ?_
        exact w_aret rfl rfl ⟨_, rfl, H⟩
      · replace H := H.2 h
        refine w_aload_n rfl rfl ?_
        obtain ⟨g17, H⟩ := H
        refine c_getr rfl rfl rfl g17 ?_
        refine c_null rfl (fun h => ?_) (fun h => ?_)
        · replace H := H.1 h
          refine w_aload_n rfl rfl ?_
          refine c_get rfl rfl rfl g17 ?_
          refine w_iconst (n := 3) rfl rfl ?_
          refine w_icmp_ne rfl (fun h => ?_) (fun h => ?_)
          · replace H := H.1 h
            refine w_aload_n rfl rfl ?_
            refine w_aload_n rfl rfl ?_
            refine c_getr rfl rfl rfl g17 ?_
            refine w_iload_n rfl rfl ?_
            obtain ⟨g18, H⟩ := H
            refine c_virt (p := a0) (as := [vr (fR s15 a1 5), vi a2]) (r := []) rfl rfl rfl rfl rfl rfl g18 (wc_mono H (Nat.le_refl _) ?_)
            rintro _ s19 ⟨r20, rfl, H⟩
            show wk iv L h0 (d + 1) 243 91 [lr a0, lr a1, li a2, lr r4, lr r16] [vr r20] s19 (qa F)
            refine w_astore rfl rfl ?_
            refine w_aload_n rfl rfl ?_
            obtain ⟨g21, H⟩ := H
            refine c_get rfl rfl rfl g21 ?_
            refine w_iconst (n := (-1)) rfl rfl ?_
            refine w_icmp_ne rfl (fun h => ?_) (fun h => ?_)
            · replace H := H.1 h
              refine w_null rfl ?_
              exact w_aret rfl rfl ⟨_, rfl, H⟩
            · replace H := H.2 h
              refine w_aload_n rfl rfl ?_
              refine w_aload_n rfl rfl ?_
              obtain ⟨g22, H⟩ := H
              refine c_getr rfl rfl rfl g22 ?_
              refine w_aload_n rfl rfl ?_
              refine w_aload rfl rfl ?_
              refine w_aload rfl rfl ?_
              refine w_iload_n rfl rfl ?_
              refine c_virt (p := a0) (as := [vr (fR s19 a1 2), vr r4, vr r16, vr r20, vi a2]) (r := []) rfl rfl rfl rfl rfl rfl g21 (wc_mono H (Nat.le_refl _) ?_)
              rintro _ s23 ⟨r24, rfl, H⟩
              show wk iv L h0 (d + 1) 243 115 [lr a0, lr a1, li a2, lr r4, lr r16, lr r20] [vr r24] s23 (qa F)
              refine w_goto rfl ?_
              exact w_aret rfl rfl ⟨_, rfl, H⟩
          · replace H := H.2 h
            refine w_aload rfl rfl ?_
            refine c_nonnull rfl (fun h => ?_) (fun h => ?_)
            · replace H := H.1 h
              refine w_aload_n rfl rfl ?_
              obtain ⟨g25, H⟩ := H
              refine c_getr rfl rfl rfl g25 ?_
              refine w_aload_n rfl rfl ?_
              refine w_aload rfl rfl ?_
              obtain ⟨g26, H⟩ := H
              refine c_virt (p := (fR s15 a0 0)) (as := [vr r4, vr r16]) (r := []) rfl rfl rfl rfl rfl rfl g26 (wc_mono H (Nat.le_refl _) ?_)
              rintro _ s27 ⟨r28, rfl, H⟩
              show wk iv L h0 (d + 1) 243 81 [lr a0, lr a1, li a2, lr r4, lr r16] [vr r28] s27 (qa F)
              exact w_aret rfl rfl ⟨_, rfl, H⟩
            · replace H := H.2 h
              refine w_null rfl ?_
              refine w_goto rfl ?_
              exact w_aret rfl rfl ⟨_, rfl, H⟩
        · replace H := H.2 h
          refine w_aload rfl rfl ?_
          refine c_nonnull rfl (fun h => ?_) (fun h => ?_)
          · replace H := H.1 h
            refine w_aload_n rfl rfl ?_
            refine c_get rfl rfl rfl g17 ?_
            refine w_iconst (n := 3) rfl rfl ?_
            refine w_icmp_ne rfl (fun h => ?_) (fun h => ?_)
            · replace H := H.1 h
              refine w_aload_n rfl rfl ?_
              refine w_aload_n rfl rfl ?_
              refine c_getr rfl rfl rfl g17 ?_
              refine w_iload_n rfl rfl ?_
              obtain ⟨g29, H⟩ := H
              refine c_virt (p := a0) (as := [vr (fR s15 a1 5), vi a2]) (r := []) rfl rfl rfl rfl rfl rfl g29 (wc_mono H (Nat.le_refl _) ?_)
              rintro _ s30 ⟨r31, rfl, H⟩
              show wk iv L h0 (d + 1) 243 91 [lr a0, lr a1, li a2, lr r4, lr r16] [vr r31] s30 (qa F)
              refine w_astore rfl rfl ?_
              refine w_aload_n rfl rfl ?_
              obtain ⟨g32, H⟩ := H
              refine c_get rfl rfl rfl g32 ?_
              refine w_iconst (n := (-1)) rfl rfl ?_
              refine w_icmp_ne rfl (fun h => ?_) (fun h => ?_)
              · replace H := H.1 h
                refine w_null rfl ?_
                exact w_aret rfl rfl ⟨_, rfl, H⟩
              · replace H := H.2 h
                refine w_aload_n rfl rfl ?_
                refine w_aload_n rfl rfl ?_
                obtain ⟨g33, H⟩ := H
                refine c_getr rfl rfl rfl g33 ?_
                refine w_aload_n rfl rfl ?_
                refine w_aload rfl rfl ?_
                refine w_aload rfl rfl ?_
                refine w_iload_n rfl rfl ?_
                refine c_virt (p := a0) (as := [vr (fR s30 a1 2), vr r4, vr r16, vr r31, vi a2]) (r := []) rfl rfl rfl rfl rfl rfl g32 (wc_mono H (Nat.le_refl _) ?_)
                rintro _ s34 ⟨r35, rfl, H⟩
                show wk iv L h0 (d + 1) 243 115 [lr a0, lr a1, li a2, lr r4, lr r16, lr r31] [vr r35] s34 (qa F)
                refine w_goto rfl ?_
                exact w_aret rfl rfl ⟨_, rfl, H⟩
            · replace H := H.2 h
              refine w_aload rfl rfl ?_
              refine c_nonnull rfl (fun h => ?_) (fun h => ?_)
              · replace H := H.1 h
                refine w_aload_n rfl rfl ?_
                obtain ⟨g36, H⟩ := H
                refine c_getr rfl rfl rfl g36 ?_
                refine w_aload_n rfl rfl ?_
                refine w_aload rfl rfl ?_
                obtain ⟨g37, H⟩ := H
                refine c_virt (p := (fR s15 a0 0)) (as := [vr r4, vr r16]) (r := []) rfl rfl rfl rfl rfl rfl g37 (wc_mono H (Nat.le_refl _) ?_)
                rintro _ s38 ⟨r39, rfl, H⟩
                show wk iv L h0 (d + 1) 243 81 [lr a0, lr a1, li a2, lr r4, lr r16] [vr r39] s38 (qa F)
                exact w_aret rfl rfl ⟨_, rfl, H⟩
              · replace H := H.2 h
                refine w_null rfl ?_
                refine w_goto rfl ?_
                exact w_aret rfl rfl ⟨_, rfl, H⟩
          · replace H := H.2 h
            refine w_null rfl ?_
            exact w_aret rfl rfl ⟨_, rfl, H⟩
    · replace H := H.2 h
      refine w_null rfl ?_
      refine w_goto rfl ?_
      refine w_astore rfl rfl ?_
      refine w_aload_n rfl rfl ?_
      refine c_null rfl (fun h => ?_) (fun h => ?_)
      · replace H := H.1 h
        refine w_null rfl ?_
        exact w_aret rfl rfl ⟨_, rfl, H⟩
      · replace H := H.2 h
        refine w_aload_n rfl rfl ?_
        refine c_getr rfl rfl rfl g13 ?_
        refine c_null rfl (fun h => ?_) (fun h => ?_)
        · replace H := H.1 h
          refine w_aload_n rfl rfl ?_
          refine c_get rfl rfl rfl g13 ?_
          refine w_iconst (n := 3) rfl rfl ?_
          refine w_icmp_ne rfl (fun h => ?_) (fun h => ?_)
          · replace H := H.1 h
            refine w_aload_n rfl rfl ?_
            refine w_aload_n rfl rfl ?_
            refine c_getr rfl rfl rfl g13 ?_
            refine w_iload_n rfl rfl ?_
            obtain ⟨g40, H⟩ := H
            refine c_virt (p := a0) (as := [vr (fR s3 a1 5), vi a2]) (r := []) rfl rfl rfl rfl rfl rfl g40 (wc_mono H (Nat.le_refl _) ?_)
            rintro _ s41 ⟨r42, rfl, H⟩
            show wk iv L h0 (d + 1) 243 91 [lr a0, lr a1, li a2, lr r4, lr 2] [vr r42] s41 (qa F)
            refine w_astore rfl rfl ?_
            refine w_aload_n rfl rfl ?_
            obtain ⟨g43, H⟩ := H
            refine c_get rfl rfl rfl g43 ?_
            refine w_iconst (n := (-1)) rfl rfl ?_
            refine w_icmp_ne rfl (fun h => ?_) (fun h => ?_)
            · replace H := H.1 h
              refine w_null rfl ?_
              exact w_aret rfl rfl ⟨_, rfl, H⟩
            · replace H := H.2 h
              refine w_aload_n rfl rfl ?_
              refine w_aload_n rfl rfl ?_
              obtain ⟨g44, H⟩ := H
              refine c_getr rfl rfl rfl g44 ?_
              refine w_aload_n rfl rfl ?_
              refine w_aload rfl rfl ?_
              refine w_aload rfl rfl ?_
              refine w_iload_n rfl rfl ?_
              refine c_virt (p := a0) (as := [vr (fR s41 a1 2), vr r4, vr 2, vr r42, vi a2]) (r := []) rfl rfl rfl rfl rfl rfl g43 (wc_mono H (Nat.le_refl _) ?_)
              rintro _ s45 ⟨r46, rfl, H⟩
              show wk iv L h0 (d + 1) 243 115 [lr a0, lr a1, li a2, lr r4, lr 2, lr r42] [vr r46] s45 (qa F)
              refine w_goto rfl ?_
              exact w_aret rfl rfl ⟨_, rfl, H⟩
          · replace H := H.2 h
            refine w_aload rfl rfl ?_
            refine c_nonnull rfl (fun h => absurd h (by decide)) (fun _ => ?_)
            refine w_null rfl ?_
            refine w_goto rfl ?_
            exact w_aret rfl rfl ⟨_, rfl, H⟩
        · replace H := H.2 h
          refine w_aload rfl rfl ?_
          refine c_nonnull rfl (fun h => absurd h (by decide)) (fun _ => ?_)
          refine w_null rfl ?_
          exact w_aret rfl rfl ⟨_, rfl, H⟩
end
section
/-! What the methods of the desk come to. Printed by wip/gen2/gens.py. -/
/-- HoleDesk$Worker.goOnSights(LHoleDesk$Seen;I)LHoleDesk$Seen; -/
theorem C244 {iv : List (Int × Int)} {L : Nat} {h0 : MH} {d : Nat} {s : SC} {a0 : Nat} {a1 : Nat} {a2 : Int} {F : Nat → SC → Prop} (H : wk iv L h0 (d + 1) 244 5 [lr a0, lr a1, li a2, lr 2, li 0] [] s (qa F)) : ck iv L h0 (d + 1) 244 [vr a0, vr a1, vi a2] s (qa F) := by
  show wk iv L h0 (d + 1) 244 0 [lr a0, lr a1, li a2] [] s (qa F)
  refine w_null rfl ?_
  refine w_astore_n rfl rfl ?_
  refine w_iconst (n := 0) rfl rfl ?_
  refine w_istore rfl rfl ?_
  exact wp_ls (sl_s (sl_s (sl_s (sl_s (sl_s (sl_0)))))) H

/-- HoleDesk$Worker.goOnSights(LHoleDesk$Seen;I)LHoleDesk$Seen; at 5 -/
theorem C244_5 {iv : List (Int × Int)} {L : Nat} {h0 : MH} {d : Nat} {s : SC} {l0 : Nat} {l1 : Nat} {l2 : Int} {l4 : Int} {F : Nat → SC → Prop} (H : ((26 ≤ l4 → F 2 s) ∧ (l4 < 26 → (kl s l0 = 11) ∧ ck iv L h0 d 229 [vr l0, vr l1, vi l4] s (qa fun r3 s2 => ((r3 = 2 → (-2147483648 ≤ l4 + 1 ∧ l4 + 1 ≤ 2147483647) ∧ wk iv L h0 (d + 1) 244 5 [lr l0, lr l1, li l2, lr 2, li (l4 + 1)] [] s2 (qa F)) ∧ (r3 ≠ 2 → (kl s2 l0 = 11) ∧ ck iv L h0 d 241 [vr l0, vr r3, vi l2] s2 (qa fun r7 s6 => ((r7 ≠ 2 → (kl s6 l0 = 11) ∧ (kl s6 (fR s6 l0 0) = 6) ∧ ck iv L h0 d 201 [vr (fR s6 l0 0), vi l4, vr r7, vr 2] s6 (qa fun r11 s10 => (-2147483648 ≤ l4 + 1 ∧ l4 + 1 ≤ 2147483647) ∧ wk iv L h0 (d + 1) 244 5 [lr l0, lr l1, li l2, lr r11, li (l4 + 1)] [] s10 (qa F))) ∧ (r7 = 2 → F 2 s6))))))))) : wk iv L h0 (d + 1) 244 5 [lr l0, lr l1, li l2, lr 2, li l4] [] s (qa F) := by
  refine w_iload rfl rfl ?_
  refine w_bipush (n := 26) rfl rfl rfl ?_
  refine w_icmp_ge rfl (fun h => ?_) (fun h => ?_)
  · replace H := H.1 h
    refine w_aload_n rfl rfl ?_
    exact w_aret rfl rfl ⟨_, rfl, H⟩
  · replace H := H.2 h
    refine w_aload_n rfl rfl ?_
    refine w_aload_n rfl rfl ?_
    refine w_iload rfl rfl ?_
    obtain ⟨g1, H⟩ := H
    refine c_virt (p := l0) (as := [vr l1, vi l4]) (r := []) rfl rfl rfl rfl rfl rfl g1 (wc_mono H (Nat.le_refl _) ?_)
    rintro _ s2 ⟨r3, rfl, H⟩
    show wk iv L h0 (d + 1) 244 19 [lr l0, lr l1, li l2, lr 2, li l4] [vr r3] s2 (qa F)
    refine w_astore rfl rfl ?_
    refine w_aload rfl rfl ?_
    refine c_null rfl (fun h => ?_) (fun h => ?_)
    · replace H := H.1 h
      obtain ⟨g4, H⟩ := H
      refine w_iinc rfl rfl rfl g4 ?_
      refine w_goto rfl ?_
      exact wp_ls (sl_s (sl_s (sl_s (sl_s (sl_s (sl_0)))))) H
    · replace H := H.2 h
      refine w_aload_n rfl rfl ?_
      refine w_aload rfl rfl ?_
      refine w_iload_n rfl rfl ?_
      obtain ⟨g5, H⟩ := H
      refine c_virt (p := l0) (as := [vr r3, vi l2]) (r := []) rfl rfl rfl rfl rfl rfl g5 (wc_mono H (Nat.le_refl _) ?_)
      rintro _ s6 ⟨r7, rfl, H⟩
      show wk iv L h0 (d + 1) 244 33 [lr l0, lr l1, li l2, lr 2, li l4, lr r3] [vr r7] s6 (qa F)
      refine w_astore rfl rfl ?_
      refine w_aload rfl rfl ?_
      refine c_nonnull rfl (fun h => ?_) (fun h => ?_)
      · replace H := H.1 h
        refine w_aload_n rfl rfl ?_
        obtain ⟨g8, H⟩ := H
        refine c_getr rfl rfl rfl g8 ?_
        refine w_iload rfl rfl ?_
        refine w_aload rfl rfl ?_
        refine w_aload_n rfl rfl ?_
        obtain ⟨g9, H⟩ := H
        refine c_virt (p := (fR s6 l0 0)) (as := [vi l4, vr r7, vr 2]) (r := []) rfl rfl rfl rfl rfl rfl g9 (wc_mono H (Nat.le_refl _) ?_)
        rintro _ s10 ⟨r11, rfl, H⟩
        show wk iv L h0 (d + 1) 244 54 [lr l0, lr l1, li l2, lr 2, li l4, lr r3, lr r7] [vr r11] s10 (qa F)
        refine w_astore_n rfl rfl ?_
        obtain ⟨g12, H⟩ := H
        refine w_iinc rfl rfl rfl g12 ?_
        refine w_goto rfl ?_
        exact wp_ls (sl_s (sl_s (sl_s (sl_s (sl_s (sl_0)))))) H
      · replace H := H.2 h
        refine w_null rfl ?_
        exact w_aret rfl rfl ⟨_, rfl, H⟩

/-- HoleDesk$Writer.<init>()V -/
theorem C245 {iv : List (Int × Int)} {L : Nat} {h0 : MH} {d : Nat} {s : SC} {a0 : Nat} {F : SC → Prop} (H : (a0 ≠ 2) ∧ (353 ≤ nxt s) ∧ (kl (nA s 6 400) a0 = 12) ∧ (353 ≤ nxt s + 1) ∧ (kl (nA (nA s 6 400) 0 400) a0 = 12) ∧ (353 ≤ nxt s + 2) ∧ (kl (nA (nA (nA s 6 400) 0 400) 6 2005) a0 = 12) ∧ (353 ≤ nxt s + 3) ∧ (kl (nA (nA (nA (nA s 6 400) 0 400) 6 2005) 0 2005) a0 = 12) ∧ F (uI (uR (nA (uR (nA (uI (uR (nA (uI (uR (nA s 6 400) a0 0 (nxt s)) a0 1 0) 0 400) a0 2 (nxt s + 1)) a0 3 0) 6 2005) a0 4 (nxt s + 2)) 0 2005) a0 5 (nxt s + 3)) a0 6 0)) : ck iv L h0 d 245 [vr a0] s (qv F) := by
  show wk iv L h0 d 245 0 [lr a0] [] s (qv F)
  refine w_aload_n rfl rfl ?_
  obtain ⟨g1, H⟩ := H
  refine c_oinit rfl rfl g1 ?_
  refine w_aload_n rfl rfl ?_
  refine w_sipush (n := 400) rfl rfl rfl ?_
  obtain ⟨g2, H⟩ := H
  refine c_anewa rfl rfl ⟨by decide, by decide⟩ g2 ?_
  show wk iv L h0 d 245 11 [lr a0] [vr (nxt s), vr a0] (nA s 6 400) (qv F)
  obtain ⟨g3, H⟩ := H
  refine c_putr rfl rfl rfl rfl g3 ?_
  refine w_aload_n rfl rfl ?_
  refine w_iconst (n := 0) rfl rfl ?_
  refine c_put rfl rfl rfl rfl g3 ?_
  refine w_aload_n rfl rfl ?_
  refine w_sipush (n := 400) rfl rfl rfl ?_
  obtain ⟨g4, H⟩ := H
  refine c_newa rfl rfl ⟨by decide, by decide⟩ g4 ?_
  show wk iv L h0 d 245 25 [lr a0] [vr (nxt s + 1), vr a0] (nA (uI (uR (nA s 6 400) a0 0 (nxt s)) a0 1 0) 0 400) (qv F)
  obtain ⟨g5, H⟩ := H
  refine c_putr rfl rfl rfl rfl g5 ?_
  refine w_aload_n rfl rfl ?_
  refine w_iconst (n := 0) rfl rfl ?_
  refine c_put rfl rfl rfl rfl g5 ?_
  refine w_aload_n rfl rfl ?_
  refine w_sipush (n := 2005) rfl rfl rfl ?_
  obtain ⟨g6, H⟩ := H
  refine c_anewa rfl rfl ⟨by decide, by decide⟩ g6 ?_
  show wk iv L h0 d 245 40 [lr a0] [vr (nxt s + 2), vr a0] (nA (uI (uR (nA (uI (uR (nA s 6 400) a0 0 (nxt s)) a0 1 0) 0 400) a0 2 (nxt s + 1)) a0 3 0) 6 2005) (qv F)
  obtain ⟨g7, H⟩ := H
  refine c_putr rfl rfl rfl rfl g7 ?_
  refine w_aload_n rfl rfl ?_
  refine w_sipush (n := 2005) rfl rfl rfl ?_
  obtain ⟨g8, H⟩ := H
  refine c_newa rfl rfl ⟨by decide, by decide⟩ g8 ?_
  show wk iv L h0 d 245 49 [lr a0] [vr (nxt s + 3), vr a0] (nA (uR (nA (uI (uR (nA (uI (uR (nA s 6 400) a0 0 (nxt s)) a0 1 0) 0 400) a0 2 (nxt s + 1)) a0 3 0) 6 2005) a0 4 (nxt s + 2)) 0 2005) (qv F)
  obtain ⟨g9, H⟩ := H
  refine c_putr rfl rfl rfl rfl g9 ?_
  refine w_aload_n rfl rfl ?_
  refine w_iconst (n := 0) rfl rfl ?_
  refine c_put rfl rfl rfl rfl g9 ?_
  exact w_ret rfl rfl ⟨rfl, H⟩

/-- HoleDesk$Writer.byteAt(I)I -/
theorem C246 {iv : List (Int × Int)} {L : Nat} {h0 : MH} {d : Nat} {s : SC} {a0 : Nat} {a1 : Int} {F : Int → SC → Prop} (H : ((a1 ≠ (-1) → ((a1 < 0 → F (-9) s) ∧ (0 ≤ a1 → (kl s a0 = 12) ∧ ((fI s a0 3 ≤ a1 → F (-9) s) ∧ (a1 < fI s a0 3 → (kl s (fR s a0 2) = 100) ∧ (0 ≤ a1 ∧ a1 < le s (fR s a0 2)) ∧ F (aI s (fR s a0 2) a1) s))))) ∧ (a1 = (-1) → (kl s a0 = 12) ∧ F (fI s a0 3) s))) : ck iv L h0 d 246 [vr a0, vi a1] s (qi F) := by
  show wk iv L h0 d 246 0 [lr a0, li a1] [] s (qi F)
  refine w_iload_n rfl rfl ?_
  refine w_iconst (n := (-1)) rfl rfl ?_
  refine w_icmp_ne rfl (fun h => ?_) (fun h => ?_)
  · replace H := H.1 h
    refine w_iload_n rfl rfl ?_
    refine w_if_lt rfl (fun h => ?_) (fun h => ?_)
    · replace H := H.1 h
      refine w_bipush (n := (-9)) rfl rfl rfl ?_
      exact w_iret rfl rfl ⟨_, rfl, H⟩
    · replace H := H.2 h
      refine w_iload_n rfl rfl ?_
      refine w_aload_n rfl rfl ?_
      obtain ⟨g1, H⟩ := H
      refine c_get rfl rfl rfl g1 ?_
      refine w_icmp_ge rfl (fun h => ?_) (fun h => ?_)
      · replace H := H.1 h
        refine w_bipush (n := (-9)) rfl rfl rfl ?_
        exact w_iret rfl rfl ⟨_, rfl, H⟩
      · replace H := H.2 h
        refine w_aload_n rfl rfl ?_
        refine c_getr rfl rfl rfl g1 ?_
        refine w_iload_n rfl rfl ?_
        obtain ⟨g2, H⟩ := H
        obtain ⟨g3, H⟩ := H
        refine c_ald rfl g2 g3 ?_
        refine w_goto rfl ?_
        exact w_iret rfl rfl ⟨_, rfl, H⟩
  · replace H := H.2 h
    refine w_aload_n rfl rfl ?_
    obtain ⟨g4, H⟩ := H
    refine c_get rfl rfl rfl g4 ?_
    exact w_iret rfl rfl ⟨_, rfl, H⟩

/-- HoleDesk$Writer.writeAll(LHoleDesk$Value;)V -/
theorem C247 {iv : List (Int × Int)} {L : Nat} {h0 : MH} {d : Nat} {s : SC} {a0 : Nat} {a1 : Nat} {F : SC → Prop} (H : (kl s a0 = 12) ∧ ck iv L h0 d 248 [vr a0, vr a1, vi 0] (uI (uI (uI s a0 3 0) a0 1 0) a0 6 0) (qv fun s2 => wk iv L h0 (d + 1) 247 23 [lr a0, ln, li 0] [] s2 (qv F))) : ck iv L h0 (d + 1) 247 [vr a0, vr a1] s (qv F) := by
  show wk iv L h0 (d + 1) 247 0 [lr a0, lr a1] [] s (qv F)
  refine w_aload_n rfl rfl ?_
  refine w_iconst (n := 0) rfl rfl ?_
  obtain ⟨g1, H⟩ := H
  refine c_put rfl rfl rfl rfl g1 ?_
  refine w_aload_n rfl rfl ?_
  refine w_iconst (n := 0) rfl rfl ?_
  refine c_put rfl rfl rfl rfl g1 ?_
  refine w_aload_n rfl rfl ?_
  refine w_iconst (n := 0) rfl rfl ?_
  refine c_put rfl rfl rfl rfl g1 ?_
  refine w_aload_n rfl rfl ?_
  refine w_aload_n rfl rfl ?_
  refine w_iconst (n := 0) rfl rfl ?_
  refine c_virt (p := a0) (as := [vr a1, vi 0]) (r := []) rfl rfl rfl rfl rfl rfl g1 (wc_mono H (Nat.le_refl _) ?_)
  rintro _ s2 ⟨rfl, H⟩
  show wk iv L h0 (d + 1) 247 21 [lr a0, lr a1] [] s2 (qv F)
  refine w_iconst (n := 0) rfl rfl ?_
  refine w_istore_n rfl rfl ?_
  exact wp_ls (sl_s (sl_n (sl_s (sl_0)))) H

/-- HoleDesk$Writer.writeAll(LHoleDesk$Value;)V at 23 -/
theorem C247_23 {iv : List (Int × Int)} {L : Nat} {h0 : MH} {d : Nat} {s : SC} {l0 : Nat} {l2 : Int} {F : SC → Prop} (H : ((400 ≤ l2 → F s) ∧ (l2 < 400 → (kl s l0 = 12) ∧ ((fI s l0 6 ≤ 0 → F s) ∧ (0 < fI s l0 6 → (-2147483648 ≤ (fI s l0 6) - 1 ∧ (fI s l0 6) - 1 ≤ 2147483647) ∧ (kl s (fR s l0 4) = 106) ∧ (0 ≤ fI (uI s l0 6 ((fI s l0 6) - 1)) l0 6 ∧ fI (uI s l0 6 ((fI s l0 6) - 1)) l0 6 < le s (fR s l0 4)) ∧ ((aR s (fR s l0 4) (fI (uI s l0 6 ((fI s l0 6) - 1)) l0 6) = 2 → (kl s (fR s l0 5) = 100) ∧ (0 ≤ fI (uI s l0 6 ((fI s l0 6) - 1)) l0 6 ∧ fI (uI s l0 6 ((fI s l0 6) - 1)) l0 6 < le s (fR s l0 5)) ∧ ((0 ≤ aI s (fR s l0 5) (fI (uI s l0 6 ((fI s l0 6) - 1)) l0 6) → ck iv L h0 d 249 [vr l0, vi (aI s (fR s l0 5) (fI (uI s l0 6 ((fI s l0 6) - 1)) l0 6))] (uI s l0 6 ((fI s l0 6) - 1)) (qv fun s7 => (-2147483648 ≤ l2 + 1 ∧ l2 + 1 ≤ 2147483647) ∧ wk iv L h0 (d + 1) 247 23 [lr l0, ln, li (l2 + 1)] [] s7 (qv F))) ∧ (aI s (fR s l0 5) (fI (uI s l0 6 ((fI s l0 6) - 1)) l0 6) < 0 → (-2147483648 ≤ (-1) - (aI s (fR s l0 5) (fI (uI s l0 6 ((fI s l0 6) - 1)) l0 6)) ∧ (-1) - (aI s (fR s l0 5) (fI (uI s l0 6 ((fI s l0 6) - 1)) l0 6)) ≤ 2147483647) ∧ ck iv L h0 d 251 [vr l0, vi ((-1) - (aI s (fR s l0 5) (fI (uI s l0 6 ((fI s l0 6) - 1)) l0 6)))] (uI s l0 6 ((fI s l0 6) - 1)) (qv fun s10 => (-2147483648 ≤ l2 + 1 ∧ l2 + 1 ≤ 2147483647) ∧ wk iv L h0 (d + 1) 247 23 [lr l0, ln, li (l2 + 1)] [] s10 (qv F))))) ∧ (aR s (fR s l0 4) (fI (uI s l0 6 ((fI s l0 6) - 1)) l0 6) ≠ 2 → ck iv L h0 d 252 [vr l0, vr (aR s (fR s l0 4) (fI (uI s l0 6 ((fI s l0 6) - 1)) l0 6))] (uI s l0 6 ((fI s l0 6) - 1)) (qv fun s12 => (-2147483648 ≤ l2 + 1 ∧ l2 + 1 ≤ 2147483647) ∧ wk iv L h0 (d + 1) 247 23 [lr l0, ln, li (l2 + 1)] [] s12 (qv F))))))))) : wk iv L h0 (d + 1) 247 23 [lr l0, ln, li l2] [] s (qv F) := by
  refine w_iload_n rfl rfl ?_
  refine w_sipush (n := 400) rfl rfl rfl ?_
  refine w_icmp_ge rfl (fun h => ?_) (fun h => ?_)
  · replace H := H.1 h
    exact w_ret rfl rfl ⟨rfl, H⟩
  · replace H := H.2 h
    refine w_aload_n rfl rfl ?_
    obtain ⟨g1, H⟩ := H
    refine c_get rfl rfl rfl g1 ?_
    refine w_if_le rfl (fun h => ?_) (fun h => ?_)
    · replace H := H.1 h
      exact w_ret rfl rfl ⟨rfl, H⟩
    · replace H := H.2 h
      refine w_aload_n rfl rfl ?_
      refine w_dup rfl rfl ?_
      refine c_get rfl rfl rfl g1 ?_
      refine w_iconst (n := 1) rfl rfl ?_
      obtain ⟨g2, H⟩ := H
      refine w_isub rfl g2 ?_
      refine c_put rfl rfl rfl rfl g1 ?_
      refine w_aload_n rfl rfl ?_
      refine c_getr rfl rfl rfl g1 ?_
      show wk iv L h0 (d + 1) 247 51 [lr l0, ln, li l2] [vr (fR s l0 4)] (uI s l0 6 ((fI s l0 6) - 1)) (qv F)
      refine w_aload_n rfl rfl ?_
      refine c_get rfl rfl rfl g1 ?_
      show wk iv L h0 (d + 1) 247 55 [lr l0, ln, li l2] [vi (fI (uI s l0 6 ((fI s l0 6) - 1)) l0 6), vr (fR s l0 4)] (uI s l0 6 ((fI s l0 6) - 1)) (qv F)
      obtain ⟨g3, H⟩ := H
      obtain ⟨g4, H⟩ := H
      refine c_aald (t := 6) rfl ⟨g3, by decide, by decide⟩ g4 ?_
      show wk iv L h0 (d + 1) 247 56 [lr l0, ln, li l2] [vr (aR s (fR s l0 4) (fI (uI s l0 6 ((fI s l0 6) - 1)) l0 6))] (uI s l0 6 ((fI s l0 6) - 1)) (qv F)
      refine c_null rfl (fun h => ?_) (fun h => ?_)
      · replace H := H.1 h
        refine w_aload_n rfl rfl ?_
        refine c_getr rfl rfl rfl g1 ?_
        show wk iv L h0 (d + 1) 247 79 [lr l0, ln, li l2] [vr (fR s l0 5)] (uI s l0 6 ((fI s l0 6) - 1)) (qv F)
        refine w_aload_n rfl rfl ?_
        refine c_get rfl rfl rfl g1 ?_
        show wk iv L h0 (d + 1) 247 83 [lr l0, ln, li l2] [vi (fI (uI s l0 6 ((fI s l0 6) - 1)) l0 6), vr (fR s l0 5)] (uI s l0 6 ((fI s l0 6) - 1)) (qv F)
        obtain ⟨g5, H⟩ := H
        obtain ⟨g6, H⟩ := H
        refine c_ald rfl g5 g6 ?_
        show wk iv L h0 (d + 1) 247 84 [lr l0, ln, li l2] [vi (aI s (fR s l0 5) (fI (uI s l0 6 ((fI s l0 6) - 1)) l0 6))] (uI s l0 6 ((fI s l0 6) - 1)) (qv F)
        refine w_if_ge rfl (fun h => ?_) (fun h => ?_)
        · replace H := H.1 h
          refine w_aload_n rfl rfl ?_
          refine w_aload_n rfl rfl ?_
          refine c_getr rfl rfl rfl g1 ?_
          show wk iv L h0 (d + 1) 247 110 [lr l0, ln, li l2] [vr (fR s l0 5), vr l0] (uI s l0 6 ((fI s l0 6) - 1)) (qv F)
          refine w_aload_n rfl rfl ?_
          refine c_get rfl rfl rfl g1 ?_
          show wk iv L h0 (d + 1) 247 114 [lr l0, ln, li l2] [vi (fI (uI s l0 6 ((fI s l0 6) - 1)) l0 6), vr (fR s l0 5), vr l0] (uI s l0 6 ((fI s l0 6) - 1)) (qv F)
          refine c_ald rfl g5 g6 ?_
          show wk iv L h0 (d + 1) 247 115 [lr l0, ln, li l2] [vi (aI s (fR s l0 5) (fI (uI s l0 6 ((fI s l0 6) - 1)) l0 6)), vr l0] (uI s l0 6 ((fI s l0 6) - 1)) (qv F)
          refine c_virt (p := l0) (as := [vi (aI s (fR s l0 5) (fI (uI s l0 6 ((fI s l0 6) - 1)) l0 6))]) (r := []) rfl rfl rfl rfl rfl rfl g1 (wc_mono H (Nat.le_refl _) ?_)
          rintro _ s7 ⟨rfl, H⟩
          show wk iv L h0 (d + 1) 247 118 [lr l0, ln, li l2] [] s7 (qv F)
          obtain ⟨g8, H⟩ := H
          refine w_iinc rfl rfl rfl g8 ?_
          refine w_goto rfl ?_
          exact wp_ls (sl_s (sl_n (sl_s (sl_0)))) H
        · replace H := H.2 h
          refine w_aload_n rfl rfl ?_
          refine w_iconst (n := (-1)) rfl rfl ?_
          refine w_aload_n rfl rfl ?_
          refine c_getr rfl rfl rfl g1 ?_
          show wk iv L h0 (d + 1) 247 93 [lr l0, ln, li l2] [vr (fR s l0 5), vi (-1), vr l0] (uI s l0 6 ((fI s l0 6) - 1)) (qv F)
          refine w_aload_n rfl rfl ?_
          refine c_get rfl rfl rfl g1 ?_
          show wk iv L h0 (d + 1) 247 97 [lr l0, ln, li l2] [vi (fI (uI s l0 6 ((fI s l0 6) - 1)) l0 6), vr (fR s l0 5), vi (-1), vr l0] (uI s l0 6 ((fI s l0 6) - 1)) (qv F)
          refine c_ald rfl g5 g6 ?_
          show wk iv L h0 (d + 1) 247 98 [lr l0, ln, li l2] [vi (aI s (fR s l0 5) (fI (uI s l0 6 ((fI s l0 6) - 1)) l0 6)), vi (-1), vr l0] (uI s l0 6 ((fI s l0 6) - 1)) (qv F)
          obtain ⟨g9, H⟩ := H
          refine w_isub rfl g9 ?_
          refine c_virt (p := l0) (as := [vi ((-1) - (aI s (fR s l0 5) (fI (uI s l0 6 ((fI s l0 6) - 1)) l0 6)))]) (r := []) rfl rfl rfl rfl rfl rfl g1 (wc_mono H (Nat.le_refl _) ?_)
          rintro _ s10 ⟨rfl, H⟩
          show wk iv L h0 (d + 1) 247 102 [lr l0, ln, li l2] [] s10 (qv F)
          refine w_goto rfl ?_
          obtain ⟨g11, H⟩ := H
          refine w_iinc rfl rfl rfl g11 ?_
          refine w_goto rfl ?_
          exact wp_ls (sl_s (sl_n (sl_s (sl_0)))) H
      · replace H := H.2 h
        refine w_aload_n rfl rfl ?_
        refine w_aload_n rfl rfl ?_
        refine c_getr rfl rfl rfl g1 ?_
        show wk iv L h0 (d + 1) 247 64 [lr l0, ln, li l2] [vr (fR s l0 4), vr l0] (uI s l0 6 ((fI s l0 6) - 1)) (qv F)
        refine w_aload_n rfl rfl ?_
        refine c_get rfl rfl rfl g1 ?_
        show wk iv L h0 (d + 1) 247 68 [lr l0, ln, li l2] [vi (fI (uI s l0 6 ((fI s l0 6) - 1)) l0 6), vr (fR s l0 4), vr l0] (uI s l0 6 ((fI s l0 6) - 1)) (qv F)
        refine c_aald (t := 6) rfl ⟨g3, by decide, by decide⟩ g4 ?_
        show wk iv L h0 (d + 1) 247 69 [lr l0, ln, li l2] [vr (aR s (fR s l0 4) (fI (uI s l0 6 ((fI s l0 6) - 1)) l0 6)), vr l0] (uI s l0 6 ((fI s l0 6) - 1)) (qv F)
        refine c_virt (p := l0) (as := [vr (aR s (fR s l0 4) (fI (uI s l0 6 ((fI s l0 6) - 1)) l0 6))]) (r := []) rfl rfl rfl rfl rfl rfl g1 (wc_mono H (Nat.le_refl _) ?_)
        rintro _ s12 ⟨rfl, H⟩
        show wk iv L h0 (d + 1) 247 72 [lr l0, ln, li l2] [] s12 (qv F)
        refine w_goto rfl ?_
        obtain ⟨g13, H⟩ := H
        refine w_iinc rfl rfl rfl g13 ?_
        refine w_goto rfl ?_
        exact wp_ls (sl_s (sl_n (sl_s (sl_0)))) H

/-- HoleDesk$Writer.later(LHoleDesk$Value;I)V -/
theorem C248 {iv : List (Int × Int)} {L : Nat} {h0 : MH} {d : Nat} {s : SC} {a0 : Nat} {a1 : Nat} {a2 : Int} {F : SC → Prop} (H : (kl s a0 = 12) ∧ ((2005 ≤ fI s a0 6 → F s) ∧ (fI s a0 6 < 2005 → (kl s (fR s a0 4) = 106) ∧ (0 ≤ fI s a0 6 ∧ fI s a0 6 < le s (fR s a0 4)) ∧ (a1 = 2 ∨ kl s a1 = 10) ∧ (kl s (fR s a0 5) = 100) ∧ (0 ≤ fI s a0 6 ∧ fI s a0 6 < le s (fR s a0 5)) ∧ (-2147483648 ≤ (fI s a0 6) + 1 ∧ (fI s a0 6) + 1 ≤ 2147483647) ∧ F (uI (uA (uB s (fR s a0 4) (fI s a0 6) a1) (fR s a0 5) (fI s a0 6) a2) a0 6 ((fI s a0 6) + 1))))) : ck iv L h0 d 248 [vr a0, vr a1, vi a2] s (qv F) := by
  show wk iv L h0 d 248 0 [lr a0, lr a1, li a2] [] s (qv F)
  refine w_aload_n rfl rfl ?_
  obtain ⟨g1, H⟩ := H
  refine c_get rfl rfl rfl g1 ?_
  refine w_sipush (n := 2005) rfl rfl rfl ?_
  refine w_icmp_ge rfl (fun h => ?_) (fun h => ?_)
  · replace H := H.1 h
    exact w_ret rfl rfl ⟨rfl, H⟩
  · replace H := H.2 h
    refine w_aload_n rfl rfl ?_
    refine c_getr rfl rfl rfl g1 ?_
    refine w_aload_n rfl rfl ?_
    refine c_get rfl rfl rfl g1 ?_
    refine w_aload_n rfl rfl ?_
    obtain ⟨g2, H⟩ := H
    obtain ⟨g3, H⟩ := H
    obtain ⟨g4, H⟩ := H
    refine c_aast rfl rfl g2 g3 (by rcases g4 with e | e; exact Or.inl e; exact Or.inr ⟨e, by decide⟩) ?_
    refine w_aload_n rfl rfl ?_
    refine c_getr rfl rfl rfl g1 ?_
    show wk iv L h0 d 248 24 [lr a0, lr a1, li a2] [vr (fR s a0 5)] (uB s (fR s a0 4) (fI s a0 6) a1) (qv F)
    refine w_aload_n rfl rfl ?_
    refine c_get rfl rfl rfl g1 ?_
    show wk iv L h0 d 248 28 [lr a0, lr a1, li a2] [vi (fI s a0 6), vr (fR s a0 5)] (uB s (fR s a0 4) (fI s a0 6) a1) (qv F)
    refine w_iload_n rfl rfl ?_
    obtain ⟨g5, H⟩ := H
    obtain ⟨g6, H⟩ := H
    refine c_ast rfl g5 g6 ?_
    refine w_aload_n rfl rfl ?_
    refine w_dup rfl rfl ?_
    refine c_get rfl rfl rfl g1 ?_
    show wk iv L h0 d 248 35 [lr a0, lr a1, li a2] [vi (fI s a0 6), vr a0] (uA (uB s (fR s a0 4) (fI s a0 6) a1) (fR s a0 5) (fI s a0 6) a2) (qv F)
    refine w_iconst (n := 1) rfl rfl ?_
    obtain ⟨g7, H⟩ := H
    refine w_iadd rfl g7 ?_
    refine c_put rfl rfl rfl rfl g1 ?_
    exact w_ret rfl rfl ⟨rfl, H⟩

/-- HoleDesk$Writer.add(I)V -/
theorem C249 {iv : List (Int × Int)} {L : Nat} {h0 : MH} {d : Nat} {s : SC} {a0 : Nat} {a1 : Int} {F : SC → Prop} (H : (kl s a0 = 12) ∧ ((400 ≤ fI s a0 3 → F s) ∧ (fI s a0 3 < 400 → (-2147483648 ≤ (fI s a0 3) + 1 ∧ (fI s a0 3) + 1 ≤ 2147483647) ∧ (kl s (fR s a0 2) = 100) ∧ (0 ≤ fI s a0 3 ∧ fI s a0 3 < le s (fR s a0 2)) ∧ F (uA (uI s a0 3 ((fI s a0 3) + 1)) (fR s a0 2) (fI s a0 3) a1)))) : ck iv L h0 d 249 [vr a0, vi a1] s (qv F) := by
  show wk iv L h0 d 249 0 [lr a0, li a1] [] s (qv F)
  refine w_aload_n rfl rfl ?_
  obtain ⟨g1, H⟩ := H
  refine c_get rfl rfl rfl g1 ?_
  refine w_sipush (n := 400) rfl rfl rfl ?_
  refine w_icmp_ge rfl (fun h => ?_) (fun h => ?_)
  · replace H := H.1 h
    exact w_ret rfl rfl ⟨rfl, H⟩
  · replace H := H.2 h
    refine w_aload_n rfl rfl ?_
    refine c_getr rfl rfl rfl g1 ?_
    refine w_aload_n rfl rfl ?_
    refine w_dup rfl rfl ?_
    refine c_get rfl rfl rfl g1 ?_
    refine w_dup_x1 rfl rfl rfl ?_
    refine w_iconst (n := 1) rfl rfl ?_
    obtain ⟨g2, H⟩ := H
    refine w_iadd rfl g2 ?_
    refine c_put rfl rfl rfl rfl g1 ?_
    refine w_iload_n rfl rfl ?_
    obtain ⟨g3, H⟩ := H
    obtain ⟨g4, H⟩ := H
    refine c_ast rfl g3 g4 ?_
    exact w_ret rfl rfl ⟨rfl, H⟩

/-- HoleDesk$Writer.addText(Ljava/lang/String;)V -/
theorem C250 {iv : List (Int × Int)} {L : Nat} {h0 : MH} {d : Nat} {s : SC} {a0 : Nat} {a1 : Nat} {F : SC → Prop} (H : wk iv L h0 (d + 1) 250 2 [lr a0, lr a1, li 0] [] s (qv F)) : ck iv L h0 (d + 1) 250 [vr a0, vr a1] s (qv F) := by
  show wk iv L h0 (d + 1) 250 0 [lr a0, lr a1] [] s (qv F)
  refine w_iconst (n := 0) rfl rfl ?_
  refine w_istore_n rfl rfl ?_
  exact wp_ls (sl_s (sl_s (sl_s (sl_0)))) H

/-- HoleDesk$Writer.addText(Ljava/lang/String;)V at 2 -/
theorem C250_2 {iv : List (Int × Int)} {L : Nat} {h0 : MH} {d : Nat} {s : SC} {l0 : Nat} {l1 : Nat} {l2 : Int} {F : SC → Prop} (H : (8 ≤ l1 ∧ l1 < 8 + NS0) ∧ ((slen l1 ≤ l2 → F s) ∧ (l2 < slen l1 → (0 ≤ l2 ∧ l2 < slen l1) ∧ (kl s l0 = 12) ∧ ck iv L h0 d 249 [vr l0, vi (scat l1 l2)] s (qv fun s4 => (-2147483648 ≤ l2 + 1 ∧ l2 + 1 ≤ 2147483647) ∧ wk iv L h0 (d + 1) 250 2 [lr l0, lr l1, li (l2 + 1)] [] s4 (qv F))))) : wk iv L h0 (d + 1) 250 2 [lr l0, lr l1, li l2] [] s (qv F) := by
  refine w_iload_n rfl rfl ?_
  refine w_aload_n rfl rfl ?_
  obtain ⟨g1, H⟩ := H
  refine w_slen rfl g1 rfl ?_
  refine w_icmp_ge rfl (fun h => ?_) (fun h => ?_)
  · replace H := H.1 h
    exact w_ret rfl rfl ⟨rfl, H⟩
  · replace H := H.2 h
    refine w_aload_n rfl rfl ?_
    refine w_aload_n rfl rfl ?_
    refine w_iload_n rfl rfl ?_
    obtain ⟨g2, H⟩ := H
    refine w_sat rfl g1 g2 rfl ?_
    obtain ⟨g3, H⟩ := H
    refine c_virt (p := l0) (as := [vi (scat l1 l2)]) (r := []) rfl rfl rfl rfl rfl rfl g3 (wc_mono H (Nat.le_refl _) ?_)
    rintro _ s4 ⟨rfl, H⟩
    show wk iv L h0 (d + 1) 250 19 [lr l0, lr l1, li l2] [] s4 (qv F)
    obtain ⟨g5, H⟩ := H
    refine w_iinc rfl rfl rfl g5 ?_
    refine w_goto rfl ?_
    exact wp_ls (sl_s (sl_s (sl_s (sl_0)))) H

/-- HoleDesk$Writer.addDigits(I)V -/
theorem C251 {iv : List (Int × Int)} {L : Nat} {h0 : MH} {d : Nat} {s : SC} {a0 : Nat} {a1 : Int} {F : SC → Prop} (H : (inL a1) ∧ (inL 0) ∧ ((0 ≤ lcp a1 0 → wk iv L h0 (d + 1) 251 23 [lr a0, ln, ll a1, ln, ll 1000000000] [] s (qv F)) ∧ (lcp a1 0 < 0 → (kl s a0 = 12) ∧ ck iv L h0 d 249 [vr a0, vi 45] s (qv fun s4 => wk iv L h0 (d + 1) 251 23 [lr a0, ln, ll (-a1), ln, ll 1000000000] [] s4 (qv F))))) : ck iv L h0 (d + 1) 251 [vr a0, vi a1] s (qv F) := by
  show wk iv L h0 (d + 1) 251 0 [lr a0, li a1] [] s (qv F)
  refine w_iload_n rfl rfl ?_
  refine w_i2l rfl ?_
  refine w_lstore_n rfl rfl ?_
  refine w_lload_n rfl rfl ?_
  refine w_lconst (z := 0) rfl rfl ?_
  obtain ⟨g1, H⟩ := H
  obtain ⟨g2, H⟩ := H
  refine w_lcmp rfl g1 g2 ?_
  refine w_if_ge rfl (fun h => ?_) (fun h => ?_)
  · replace H := H.1 h
    refine w_ldc2 (z := 1000000000) rfl rfl ?_
    refine w_lstore rfl rfl ?_
    exact wp_ls (sl_s (sl_n (sl_s (sl_n (sl_s (sl_0)))))) H
  · replace H := H.2 h
    refine w_aload_n rfl rfl ?_
    refine w_bipush (n := 45) rfl rfl rfl ?_
    obtain ⟨g3, H⟩ := H
    refine c_virt (p := a0) (as := [vi 45]) (r := []) rfl rfl rfl rfl rfl rfl g3 (wc_mono H (Nat.le_refl _) ?_)
    rintro _ s4 ⟨rfl, H⟩
    show wk iv L h0 (d + 1) 251 15 [lr a0, li a1, ll a1, ln] [] s4 (qv F)
    refine w_lload_n rfl rfl ?_
    refine w_lneg rfl ?_
    refine w_lstore_n rfl rfl ?_
    refine w_ldc2 (z := 1000000000) rfl rfl ?_
    refine w_lstore rfl rfl ?_
    exact wp_ls (sl_s (sl_n (sl_s (sl_n (sl_s (sl_0)))))) H

/-- HoleDesk$Writer.addDigits(I)V at 23 -/
theorem C251_23 {iv : List (Int × Int)} {L : Nat} {h0 : MH} {d : Nat} {s : SC} {l0 : Nat} {l2 : Int} {l4 : Int} {F : SC → Prop} (H : (inL l4) ∧ (inL 0) ∧ ((lcp l4 0 ≤ 0 → F s) ∧ (0 < lcp l4 0 → (inL 1) ∧ ((lcp l4 1 = 0 → (inL l2) ∧ (l4 ≠ 0) ∧ (inL (l2.tdiv l4)) ∧ (inL 10) ∧ (inL ((l2.tdiv l4).tdiv 10)) ∧ (kl s l0 = 12) ∧ ck iv L h0 d 249 [vr l0, vi (w32 (48 + ((l2.tdiv l4) - (l2.tdiv l4).tdiv 10 * 10)))] s (qv fun s10 => (inL (l4.tdiv 10)) ∧ wk iv L h0 (d + 1) 251 23 [lr l0, ln, ll l2, ln, ll (l4.tdiv 10)] [] s10 (qv F))) ∧ (lcp l4 1 ≠ 0 → (inL l2) ∧ ((lcp l2 l4 < 0 → (inL 10) ∧ (inL (l4.tdiv 10)) ∧ wk iv L h0 (d + 1) 251 23 [lr l0, ln, ll l2, ln, ll (l4.tdiv 10)] [] s (qv F)) ∧ (0 ≤ lcp l2 l4 → (l4 ≠ 0) ∧ (inL (l2.tdiv l4)) ∧ (inL 10) ∧ (inL ((l2.tdiv l4).tdiv 10)) ∧ (kl s l0 = 12) ∧ ck iv L h0 d 249 [vr l0, vi (w32 (48 + ((l2.tdiv l4) - (l2.tdiv l4).tdiv 10 * 10)))] s (qv fun s20 => (inL (l4.tdiv 10)) ∧ wk iv L h0 (d + 1) 251 23 [lr l0, ln, ll l2, ln, ll (l4.tdiv 10)] [] s20 (qv F))))))))) : wk iv L h0 (d + 1) 251 23 [lr l0, ln, ll l2, ln, ll l4] [] s (qv F) := by
  refine w_lload rfl rfl ?_
  refine w_lconst (z := 0) rfl rfl ?_
  obtain ⟨g1, H⟩ := H
  obtain ⟨g2, H⟩ := H
  refine w_lcmp rfl g1 g2 ?_
  refine w_if_le rfl (fun h => ?_) (fun h => ?_)
  · replace H := H.1 h
    exact w_ret rfl rfl ⟨rfl, H⟩
  · replace H := H.2 h
    refine w_lload rfl rfl ?_
    refine w_lconst (z := 1) rfl rfl ?_
    obtain ⟨g3, H⟩ := H
    refine w_lcmp rfl g1 g3 ?_
    refine w_if_eq rfl (fun h => ?_) (fun h => ?_)
    · replace H := H.1 h
      refine w_aload_n rfl rfl ?_
      refine w_ldc2 (z := 48) rfl rfl ?_
      refine w_lload_n rfl rfl ?_
      refine w_lload rfl rfl ?_
      obtain ⟨g4, H⟩ := H
      obtain ⟨g5, H⟩ := H
      obtain ⟨g6, H⟩ := H
      refine w_ldiv rfl g4 g1 g5 g6 ?_
      refine w_ldc2 (z := 10) rfl rfl ?_
      obtain ⟨g7, H⟩ := H
      obtain ⟨g8, H⟩ := H
      refine w_lrem rfl g6 g7 (by decide) g8 ?_
      refine w_ladd rfl ?_
      refine w_l2i rfl ?_
      obtain ⟨g9, H⟩ := H
      refine c_virt (p := l0) (as := [vi (w32 (48 + ((l2.tdiv l4) - (l2.tdiv l4).tdiv 10 * 10)))]) (r := []) rfl rfl rfl rfl rfl rfl g9 (wc_mono H (Nat.le_refl _) ?_)
      rintro _ s10 ⟨rfl, H⟩
      show wk iv L h0 (d + 1) 251 61 [lr l0, ln, ll l2, ln, ll l4] [] s10 (qv F)
      refine w_lload rfl rfl ?_
      refine w_ldc2 (z := 10) rfl rfl ?_
      obtain ⟨g11, H⟩ := H
      refine w_ldiv rfl g1 g7 (by decide) g11 ?_
      refine w_lstore rfl rfl ?_
      refine w_goto rfl ?_
      exact wp_ls (sl_s (sl_n (sl_s (sl_n (sl_s (sl_0)))))) H
    · replace H := H.2 h
      refine w_lload_n rfl rfl ?_
      refine w_lload rfl rfl ?_
      obtain ⟨g12, H⟩ := H
      refine w_lcmp rfl g12 g1 ?_
      refine w_if_lt rfl (fun h => ?_) (fun h => ?_)
      · replace H := H.1 h
        refine w_lload rfl rfl ?_
        refine w_ldc2 (z := 10) rfl rfl ?_
        obtain ⟨g13, H⟩ := H
        obtain ⟨g14, H⟩ := H
        refine w_ldiv rfl g1 g13 (by decide) g14 ?_
        refine w_lstore rfl rfl ?_
        refine w_goto rfl ?_
        exact wp_ls (sl_s (sl_n (sl_s (sl_n (sl_s (sl_0)))))) H
      · replace H := H.2 h
        refine w_aload_n rfl rfl ?_
        refine w_ldc2 (z := 48) rfl rfl ?_
        refine w_lload_n rfl rfl ?_
        refine w_lload rfl rfl ?_
        obtain ⟨g15, H⟩ := H
        obtain ⟨g16, H⟩ := H
        refine w_ldiv rfl g12 g1 g15 g16 ?_
        refine w_ldc2 (z := 10) rfl rfl ?_
        obtain ⟨g17, H⟩ := H
        obtain ⟨g18, H⟩ := H
        refine w_lrem rfl g16 g17 (by decide) g18 ?_
        refine w_ladd rfl ?_
        refine w_l2i rfl ?_
        obtain ⟨g19, H⟩ := H
        refine c_virt (p := l0) (as := [vi (w32 (48 + ((l2.tdiv l4) - (l2.tdiv l4).tdiv 10 * 10)))]) (r := []) rfl rfl rfl rfl rfl rfl g19 (wc_mono H (Nat.le_refl _) ?_)
        rintro _ s20 ⟨rfl, H⟩
        show wk iv L h0 (d + 1) 251 61 [lr l0, ln, ll l2, ln, ll l4] [] s20 (qv F)
        refine w_lload rfl rfl ?_
        refine w_ldc2 (z := 10) rfl rfl ?_
        obtain ⟨g21, H⟩ := H
        refine w_ldiv rfl g1 g17 (by decide) g21 ?_
        refine w_lstore rfl rfl ?_
        refine w_goto rfl ?_
        exact wp_ls (sl_s (sl_n (sl_s (sl_n (sl_s (sl_0)))))) H

/-- HoleDesk$Writer.addOne(LHoleDesk$Value;)V -/
theorem C252 {iv : List (Int × Int)} {L : Nat} {h0 : MH} {d : Nat} {s : SC} {a0 : Nat} {a1 : Nat} {F : SC → Prop} (H : (kl s a1 = 10) ∧ ((fI s a1 0 = 0 → (kl s a0 = 12) ∧ ck iv L h0 d 251 [vr a0, vi (fI s a1 1)] s (qv fun s3 => F s3)) ∧ (fI s a1 0 = 1 → ((fI s a1 1 ≠ 1 → (kl s a0 = 12) ∧ ck iv L h0 d 250 [vr a0, vr 10] s (qv fun s5 => F s5)) ∧ (fI s a1 1 = 1 → (kl s a0 = 12) ∧ ck iv L h0 d 250 [vr a0, vr 9] s (qv fun s7 => F s7)))) ∧ (fI s a1 0 = 2 → (kl s a0 = 12) ∧ ck iv L h0 d 249 [vr a0, vi 100] s (qv fun s9 => (kl s9 a1 = 10) ∧ (kl s9 (fR s9 a1 2) = 5) ∧ (kl s9 a0 = 12) ∧ ck iv L h0 d 251 [vr a0, vi (fI s9 (fR s9 a1 2) 0)] s9 (qv fun s13 => F s13))) ∧ (fI s a1 0 = 3 → (kl s a0 = 12) ∧ ck iv L h0 d 249 [vr a0, vi 91] s (qv fun s15 => (kl s15 a0 = 12) ∧ ck iv L h0 d 248 [vr a0, vr 2, vi 93] s15 (qv fun s17 => (kl s17 a1 = 10) ∧ (kl s17 a0 = 12) ∧ ck iv L h0 d 248 [vr a0, vr (fR s17 a1 4), vi 0] s17 (qv fun s20 => (kl s20 a0 = 12) ∧ ck iv L h0 d 248 [vr a0, vr 2, vi 32] s20 (qv fun s22 => (kl s22 a1 = 10) ∧ (kl s22 a0 = 12) ∧ ck iv L h0 d 248 [vr a0, vr (fR s22 a1 3), vi 0] s22 (qv fun s25 => F s25)))))) ∧ (fI s a1 0 = 4 → (kl s a0 = 12) ∧ ((400 ≤ fI s a0 3 → ck iv L h0 d 249 [vr a0, vi 63] s (qv fun s27 => (kl s27 a1 = 10) ∧ (kl s27 (fR s27 a1 2) = 5) ∧ (kl s27 a0 = 12) ∧ ck iv L h0 d 251 [vr a0, vi (fI s27 (fR s27 a1 2) 0)] s27 (qv fun s31 => F s31))) ∧ (fI s a0 3 < 400 → (-2147483648 ≤ (fI s a0 1) + 1 ∧ (fI s a0 1) + 1 ≤ 2147483647) ∧ (kl s (fR s a0 0) = 106) ∧ (0 ≤ fI s a0 1 ∧ fI s a0 1 < le s (fR s a0 0)) ∧ (a1 = 2 ∨ kl s a1 = 10) ∧ ck iv L h0 d 249 [vr a0, vi 63] (uB (uI s a0 1 ((fI s a0 1) + 1)) (fR s a0 0) (fI s a0 1) a1) (qv fun s36 => (kl s36 a1 = 10) ∧ (kl s36 (fR s36 a1 2) = 5) ∧ (kl s36 a0 = 12) ∧ ck iv L h0 d 251 [vr a0, vi (fI s36 (fR s36 a1 2) 0)] s36 (qv fun s40 => F s40))))) ∧ (fI s a1 0 = 5 → (kl s a0 = 12) ∧ ck iv L h0 d 249 [vr a0, vi 33] s (qv fun s42 => (kl s42 a1 = 10) ∧ (-2147483648 ≤ 97 + (fI s42 a1 1) ∧ 97 + (fI s42 a1 1) ≤ 2147483647) ∧ (kl s42 a0 = 12) ∧ ck iv L h0 d 249 [vr a0, vi (97 + (fI s42 a1 1))] s42 (qv fun s46 => F s46))) ∧ (fI s a1 0 = 6 → (kl s a0 = 12) ∧ ck iv L h0 d 249 [vr a0, vi 123] s (qv fun s48 => (kl s48 a0 = 12) ∧ ck iv L h0 d 248 [vr a0, vr 2, vi 125] s48 (qv fun s50 => (kl s50 a1 = 10) ∧ (kl s50 a0 = 12) ∧ ck iv L h0 d 248 [vr a0, vr (fR s50 a1 3), vi 0] s50 (qv fun s53 => F s53)))) ∧ (fI s a1 0 < 0 ∨ 6 < fI s a1 0 → (kl s a0 = 12) ∧ ck iv L h0 d 253 [vr a0, vr a1] s (qv fun s55 => F s55)))) : ck iv L h0 (d + 1) 252 [vr a0, vr a1] s (qv F) := by
  show wk iv L h0 (d + 1) 252 0 [lr a0, lr a1] [] s (qv F)
  refine w_aload_n rfl rfl ?_
  obtain ⟨g1, H⟩ := H
  refine c_get rfl rfl rfl g1 ?_
  have J48 : (fI s a1 0 = 0) → wk iv L h0 (d + 1) 252 48 [lr a0, lr a1] [] s (qv F) := fun h => by
    replace H := H.1 h
    refine w_aload_n rfl rfl ?_
    refine w_aload_n rfl rfl ?_
    refine c_get rfl rfl rfl g1 ?_
    obtain ⟨g2, H⟩ := H
    refine c_virt (p := a0) (as := [vi (fI s a1 1)]) (r := []) rfl rfl rfl rfl rfl rfl g2 (wc_mono H (Nat.le_refl _) ?_)
    rintro _ s3 ⟨rfl, H⟩
    show wk iv L h0 (d + 1) 252 56 [lr a0, lr a1] [] s3 (qv F)
    refine w_goto rfl ?_
    exact w_ret rfl rfl ⟨rfl, H⟩
  have J59 : (fI s a1 0 = 1) → wk iv L h0 (d + 1) 252 59 [lr a0, lr a1] [] s (qv F) := fun h => by
    replace H := H.2.1 h
    refine w_aload_n rfl rfl ?_
    refine w_aload_n rfl rfl ?_
    refine c_get rfl rfl rfl g1 ?_
    refine w_iconst (n := 1) rfl rfl ?_
    refine w_icmp_ne rfl (fun h => ?_) (fun h => ?_)
    · replace H := H.1 h
      refine w_ldcs (x := 10) rfl rfl (by decide) ?_
      obtain ⟨g4, H⟩ := H
      refine c_virt (p := a0) (as := [vr 10]) (r := []) rfl rfl rfl rfl rfl rfl g4 (wc_mono H (Nat.le_refl _) ?_)
      rintro _ s5 ⟨rfl, H⟩
      show wk iv L h0 (d + 1) 252 78 [lr a0, lr a1] [] s5 (qv F)
      refine w_goto rfl ?_
      exact w_ret rfl rfl ⟨rfl, H⟩
    · replace H := H.2 h
      refine w_ldcs (x := 9) rfl rfl (by decide) ?_
      refine w_goto rfl ?_
      obtain ⟨g6, H⟩ := H
      refine c_virt (p := a0) (as := [vr 9]) (r := []) rfl rfl rfl rfl rfl rfl g6 (wc_mono H (Nat.le_refl _) ?_)
      rintro _ s7 ⟨rfl, H⟩
      show wk iv L h0 (d + 1) 252 78 [lr a0, lr a1] [] s7 (qv F)
      refine w_goto rfl ?_
      exact w_ret rfl rfl ⟨rfl, H⟩
  have J81 : (fI s a1 0 = 2) → wk iv L h0 (d + 1) 252 81 [lr a0, lr a1] [] s (qv F) := fun h => by
    replace H := H.2.2.1 h
    refine w_aload_n rfl rfl ?_
    refine w_bipush (n := 100) rfl rfl rfl ?_
    obtain ⟨g8, H⟩ := H
    refine c_virt (p := a0) (as := [vi 100]) (r := []) rfl rfl rfl rfl rfl rfl g8 (wc_mono H (Nat.le_refl _) ?_)
    rintro _ s9 ⟨rfl, H⟩
    show wk iv L h0 (d + 1) 252 87 [lr a0, lr a1] [] s9 (qv F)
    refine w_aload_n rfl rfl ?_
    refine w_aload_n rfl rfl ?_
    obtain ⟨g10, H⟩ := H
    refine c_getr rfl rfl rfl g10 ?_
    obtain ⟨g11, H⟩ := H
    refine c_get rfl rfl rfl g11 ?_
    obtain ⟨g12, H⟩ := H
    refine c_virt (p := a0) (as := [vi (fI s9 (fR s9 a1 2) 0)]) (r := []) rfl rfl rfl rfl rfl rfl g12 (wc_mono H (Nat.le_refl _) ?_)
    rintro _ s13 ⟨rfl, H⟩
    show wk iv L h0 (d + 1) 252 98 [lr a0, lr a1] [] s13 (qv F)
    refine w_goto rfl ?_
    exact w_ret rfl rfl ⟨rfl, H⟩
  have J101 : (fI s a1 0 = 3) → wk iv L h0 (d + 1) 252 101 [lr a0, lr a1] [] s (qv F) := fun h => by
    replace H := H.2.2.2.1 h
    refine w_aload_n rfl rfl ?_
    refine w_bipush (n := 91) rfl rfl rfl ?_
    obtain ⟨g14, H⟩ := H
    refine c_virt (p := a0) (as := [vi 91]) (r := []) rfl rfl rfl rfl rfl rfl g14 (wc_mono H (Nat.le_refl _) ?_)
    rintro _ s15 ⟨rfl, H⟩
    show wk iv L h0 (d + 1) 252 107 [lr a0, lr a1] [] s15 (qv F)
    refine w_aload_n rfl rfl ?_
    refine w_null rfl ?_
    refine w_bipush (n := 93) rfl rfl rfl ?_
    obtain ⟨g16, H⟩ := H
    refine c_virt (p := a0) (as := [vr 2, vi 93]) (r := []) rfl rfl rfl rfl rfl rfl g16 (wc_mono H (Nat.le_refl _) ?_)
    rintro _ s17 ⟨rfl, H⟩
    show wk iv L h0 (d + 1) 252 114 [lr a0, lr a1] [] s17 (qv F)
    refine w_aload_n rfl rfl ?_
    refine w_aload_n rfl rfl ?_
    obtain ⟨g18, H⟩ := H
    refine c_getr rfl rfl rfl g18 ?_
    refine w_iconst (n := 0) rfl rfl ?_
    obtain ⟨g19, H⟩ := H
    refine c_virt (p := a0) (as := [vr (fR s17 a1 4), vi 0]) (r := []) rfl rfl rfl rfl rfl rfl g19 (wc_mono H (Nat.le_refl _) ?_)
    rintro _ s20 ⟨rfl, H⟩
    show wk iv L h0 (d + 1) 252 123 [lr a0, lr a1] [] s20 (qv F)
    refine w_aload_n rfl rfl ?_
    refine w_null rfl ?_
    refine w_bipush (n := 32) rfl rfl rfl ?_
    obtain ⟨g21, H⟩ := H
    refine c_virt (p := a0) (as := [vr 2, vi 32]) (r := []) rfl rfl rfl rfl rfl rfl g21 (wc_mono H (Nat.le_refl _) ?_)
    rintro _ s22 ⟨rfl, H⟩
    show wk iv L h0 (d + 1) 252 130 [lr a0, lr a1] [] s22 (qv F)
    refine w_aload_n rfl rfl ?_
    refine w_aload_n rfl rfl ?_
    obtain ⟨g23, H⟩ := H
    refine c_getr rfl rfl rfl g23 ?_
    refine w_iconst (n := 0) rfl rfl ?_
    obtain ⟨g24, H⟩ := H
    refine c_virt (p := a0) (as := [vr (fR s22 a1 3), vi 0]) (r := []) rfl rfl rfl rfl rfl rfl g24 (wc_mono H (Nat.le_refl _) ?_)
    rintro _ s25 ⟨rfl, H⟩
    show wk iv L h0 (d + 1) 252 139 [lr a0, lr a1] [] s25 (qv F)
    refine w_goto rfl ?_
    exact w_ret rfl rfl ⟨rfl, H⟩
  have J142 : (fI s a1 0 = 4) → wk iv L h0 (d + 1) 252 142 [lr a0, lr a1] [] s (qv F) := fun h => by
    replace H := H.2.2.2.2.1 h
    refine w_aload_n rfl rfl ?_
    obtain ⟨g26, H⟩ := H
    refine c_get rfl rfl rfl g26 ?_
    refine w_sipush (n := 400) rfl rfl rfl ?_
    refine w_icmp_ge rfl (fun h => ?_) (fun h => ?_)
    · replace H := H.1 h
      refine w_aload_n rfl rfl ?_
      refine w_bipush (n := 63) rfl rfl rfl ?_
      refine c_virt (p := a0) (as := [vi 63]) (r := []) rfl rfl rfl rfl rfl rfl g26 (wc_mono H (Nat.le_refl _) ?_)
      rintro _ s27 ⟨rfl, H⟩
      show wk iv L h0 (d + 1) 252 175 [lr a0, lr a1] [] s27 (qv F)
      refine w_aload_n rfl rfl ?_
      refine w_aload_n rfl rfl ?_
      obtain ⟨g28, H⟩ := H
      refine c_getr rfl rfl rfl g28 ?_
      obtain ⟨g29, H⟩ := H
      refine c_get rfl rfl rfl g29 ?_
      obtain ⟨g30, H⟩ := H
      refine c_virt (p := a0) (as := [vi (fI s27 (fR s27 a1 2) 0)]) (r := []) rfl rfl rfl rfl rfl rfl g30 (wc_mono H (Nat.le_refl _) ?_)
      rintro _ s31 ⟨rfl, H⟩
      show wk iv L h0 (d + 1) 252 186 [lr a0, lr a1] [] s31 (qv F)
      refine w_goto rfl ?_
      exact w_ret rfl rfl ⟨rfl, H⟩
    · replace H := H.2 h
      refine w_aload_n rfl rfl ?_
      refine c_getr rfl rfl rfl g26 ?_
      refine w_aload_n rfl rfl ?_
      refine w_dup rfl rfl ?_
      refine c_get rfl rfl rfl g26 ?_
      refine w_dup_x1 rfl rfl rfl ?_
      refine w_iconst (n := 1) rfl rfl ?_
      obtain ⟨g32, H⟩ := H
      refine w_iadd rfl g32 ?_
      refine c_put rfl rfl rfl rfl g26 ?_
      refine w_aload_n rfl rfl ?_
      obtain ⟨g33, H⟩ := H
      obtain ⟨g34, H⟩ := H
      obtain ⟨g35, H⟩ := H
      refine c_aast rfl rfl g33 g34 (by rcases g35 with e | e; exact Or.inl e; exact Or.inr ⟨e, by decide⟩) ?_
      refine w_aload_n rfl rfl ?_
      refine w_bipush (n := 63) rfl rfl rfl ?_
      refine c_virt (p := a0) (as := [vi 63]) (r := []) rfl rfl rfl rfl rfl rfl g26 (wc_mono H (Nat.le_refl _) ?_)
      rintro _ s36 ⟨rfl, H⟩
      show wk iv L h0 (d + 1) 252 175 [lr a0, lr a1] [] s36 (qv F)
      refine w_aload_n rfl rfl ?_
      refine w_aload_n rfl rfl ?_
      obtain ⟨g37, H⟩ := H
      refine c_getr rfl rfl rfl g37 ?_
      obtain ⟨g38, H⟩ := H
      refine c_get rfl rfl rfl g38 ?_
      obtain ⟨g39, H⟩ := H
      refine c_virt (p := a0) (as := [vi (fI s36 (fR s36 a1 2) 0)]) (r := []) rfl rfl rfl rfl rfl rfl g39 (wc_mono H (Nat.le_refl _) ?_)
      rintro _ s40 ⟨rfl, H⟩
      show wk iv L h0 (d + 1) 252 186 [lr a0, lr a1] [] s40 (qv F)
      refine w_goto rfl ?_
      exact w_ret rfl rfl ⟨rfl, H⟩
  have J189 : (fI s a1 0 = 5) → wk iv L h0 (d + 1) 252 189 [lr a0, lr a1] [] s (qv F) := fun h => by
    replace H := H.2.2.2.2.2.1 h
    refine w_aload_n rfl rfl ?_
    refine w_bipush (n := 33) rfl rfl rfl ?_
    obtain ⟨g41, H⟩ := H
    refine c_virt (p := a0) (as := [vi 33]) (r := []) rfl rfl rfl rfl rfl rfl g41 (wc_mono H (Nat.le_refl _) ?_)
    rintro _ s42 ⟨rfl, H⟩
    show wk iv L h0 (d + 1) 252 195 [lr a0, lr a1] [] s42 (qv F)
    refine w_aload_n rfl rfl ?_
    refine w_bipush (n := 97) rfl rfl rfl ?_
    refine w_aload_n rfl rfl ?_
    obtain ⟨g43, H⟩ := H
    refine c_get rfl rfl rfl g43 ?_
    obtain ⟨g44, H⟩ := H
    refine w_iadd rfl g44 ?_
    obtain ⟨g45, H⟩ := H
    refine c_virt (p := a0) (as := [vi (97 + (fI s42 a1 1))]) (r := []) rfl rfl rfl rfl rfl rfl g45 (wc_mono H (Nat.le_refl _) ?_)
    rintro _ s46 ⟨rfl, H⟩
    show wk iv L h0 (d + 1) 252 206 [lr a0, lr a1] [] s46 (qv F)
    refine w_goto rfl ?_
    exact w_ret rfl rfl ⟨rfl, H⟩
  have J209 : (fI s a1 0 = 6) → wk iv L h0 (d + 1) 252 209 [lr a0, lr a1] [] s (qv F) := fun h => by
    replace H := H.2.2.2.2.2.2.1 h
    refine w_aload_n rfl rfl ?_
    refine w_bipush (n := 123) rfl rfl rfl ?_
    obtain ⟨g47, H⟩ := H
    refine c_virt (p := a0) (as := [vi 123]) (r := []) rfl rfl rfl rfl rfl rfl g47 (wc_mono H (Nat.le_refl _) ?_)
    rintro _ s48 ⟨rfl, H⟩
    show wk iv L h0 (d + 1) 252 215 [lr a0, lr a1] [] s48 (qv F)
    refine w_aload_n rfl rfl ?_
    refine w_null rfl ?_
    refine w_bipush (n := 125) rfl rfl rfl ?_
    obtain ⟨g49, H⟩ := H
    refine c_virt (p := a0) (as := [vr 2, vi 125]) (r := []) rfl rfl rfl rfl rfl rfl g49 (wc_mono H (Nat.le_refl _) ?_)
    rintro _ s50 ⟨rfl, H⟩
    show wk iv L h0 (d + 1) 252 222 [lr a0, lr a1] [] s50 (qv F)
    refine w_aload_n rfl rfl ?_
    refine w_aload_n rfl rfl ?_
    obtain ⟨g51, H⟩ := H
    refine c_getr rfl rfl rfl g51 ?_
    refine w_iconst (n := 0) rfl rfl ?_
    obtain ⟨g52, H⟩ := H
    refine c_virt (p := a0) (as := [vr (fR s50 a1 3), vi 0]) (r := []) rfl rfl rfl rfl rfl rfl g52 (wc_mono H (Nat.le_refl _) ?_)
    rintro _ s53 ⟨rfl, H⟩
    show wk iv L h0 (d + 1) 252 231 [lr a0, lr a1] [] s53 (qv F)
    refine w_goto rfl ?_
    exact w_ret rfl rfl ⟨rfl, H⟩
  have J234 : (fI s a1 0 < 0 ∨ 6 < fI s a1 0) → wk iv L h0 (d + 1) 252 234 [lr a0, lr a1] [] s (qv F) := fun h => by
    replace H := H.2.2.2.2.2.2.2 h
    refine w_aload_n rfl rfl ?_
    refine w_aload_n rfl rfl ?_
    obtain ⟨g54, H⟩ := H
    refine c_virt (p := a0) (as := [vr a1]) (r := []) rfl rfl rfl rfl rfl rfl g54 (wc_mono H (Nat.le_refl _) ?_)
    rintro _ s55 ⟨rfl, H⟩
    show wk iv L h0 (d + 1) 252 239 [lr a0, lr a1] [] s55 (qv F)
    exact w_ret rfl rfl ⟨rfl, H⟩
  refine w_tsw (td := 234) (ts := [48, 59, 81, 101, 142, 189, 209]) rfl rfl rfl rfl rfl rfl (fun h => J234 (by omega)) ?_
  exact swA_c (fun h => J48 (by omega)) (swA_c (fun h => J59 (by omega)) (swA_c (fun h => J81 (by omega)) (swA_c (fun h => J101 (by omega)) (swA_c (fun h => J142 (by omega)) (swA_c (fun h => J189 (by omega)) (swA_c (fun h => J209 (by omega)) (swA_n)))))))

/-- HoleDesk$Writer.addAct(LHoleDesk$Value;)V -/
theorem C253 {iv : List (Int × Int)} {L : Nat} {h0 : MH} {d : Nat} {s : SC} {a0 : Nat} {a1 : Nat} {F : SC → Prop} (H : (kl s a0 = 12) ∧ ck iv L h0 d 249 [vr a0, vi 40] s (qv fun s2 => (kl s2 a1 = 10) ∧ (kl s2 (fR s2 a1 2) = 5) ∧ ck iv L h0 d 254 [vi (fI s2 (fR s2 a1 2) 1)] s2 (qa fun r6 s5 => (kl s5 a0 = 12) ∧ ck iv L h0 d 250 [vr a0, vr r6] s5 (qv fun s8 => (kl s8 a0 = 12) ∧ ck iv L h0 d 248 [vr a0, vr 2, vi 41] s8 (qv fun s10 => (kl s10 a1 = 10) ∧ (kl s10 (fR s10 a1 2) = 5) ∧ ((fI s10 (fR s10 a1 2) 1 ≠ 11 → ((fR s10 a1 4 = 2 → (kl s10 a0 = 12) ∧ ck iv L h0 d 248 [vr a0, vr (fR s10 a1 3), vi 0] s10 (qv fun s14 => (kl s14 a0 = 12) ∧ ck iv L h0 d 248 [vr a0, vr 2, vi 32] s14 (qv fun s16 => F s16))) ∧ (fR s10 a1 4 ≠ 2 → (kl s10 a0 = 12) ∧ ck iv L h0 d 248 [vr a0, vr (fR s10 a1 4), vi 0] s10 (qv fun s18 => (kl s18 a0 = 12) ∧ ck iv L h0 d 248 [vr a0, vr 2, vi 32] s18 (qv fun s20 => (kl s20 a1 = 10) ∧ (kl s20 a0 = 12) ∧ ck iv L h0 d 248 [vr a0, vr (fR s20 a1 3), vi 0] s20 (qv fun s23 => (kl s23 a0 = 12) ∧ ck iv L h0 d 248 [vr a0, vr 2, vi 32] s23 (qv fun s25 => F s25))))))) ∧ (fI s10 (fR s10 a1 2) 1 = 11 → (-2147483648 ≤ (-1) - (fI s10 (fR s10 a1 2) 0) ∧ (-1) - (fI s10 (fR s10 a1 2) 0) ≤ 2147483647) ∧ (kl s10 a0 = 12) ∧ ck iv L h0 d 248 [vr a0, vr 2, vi ((-1) - (fI s10 (fR s10 a1 2) 0))] s10 (qv fun s28 => (kl s28 a0 = 12) ∧ ck iv L h0 d 248 [vr a0, vr 2, vi 32] s28 (qv fun s30 => (kl s30 a1 = 10) ∧ ((fR s30 a1 4 = 2 → (kl s30 a0 = 12) ∧ ck iv L h0 d 248 [vr a0, vr (fR s30 a1 3), vi 0] s30 (qv fun s33 => (kl s33 a0 = 12) ∧ ck iv L h0 d 248 [vr a0, vr 2, vi 32] s33 (qv fun s35 => F s35))) ∧ (fR s30 a1 4 ≠ 2 → (kl s30 a0 = 12) ∧ ck iv L h0 d 248 [vr a0, vr (fR s30 a1 4), vi 0] s30 (qv fun s37 => (kl s37 a0 = 12) ∧ ck iv L h0 d 248 [vr a0, vr 2, vi 32] s37 (qv fun s39 => (kl s39 a1 = 10) ∧ (kl s39 a0 = 12) ∧ ck iv L h0 d 248 [vr a0, vr (fR s39 a1 3), vi 0] s39 (qv fun s42 => (kl s42 a0 = 12) ∧ ck iv L h0 d 248 [vr a0, vr 2, vi 32] s42 (qv fun s44 => F s44))))))))))))))) : ck iv L h0 (d + 1) 253 [vr a0, vr a1] s (qv F) := by
  show wk iv L h0 (d + 1) 253 0 [lr a0, lr a1] [] s (qv F)
  refine w_aload_n rfl rfl ?_
  refine w_bipush (n := 40) rfl rfl rfl ?_
  obtain ⟨g1, H⟩ := H
  refine c_virt (p := a0) (as := [vi 40]) (r := []) rfl rfl rfl rfl rfl rfl g1 (wc_mono H (Nat.le_refl _) ?_)
  rintro _ s2 ⟨rfl, H⟩
  show wk iv L h0 (d + 1) 253 6 [lr a0, lr a1] [] s2 (qv F)
  refine w_aload_n rfl rfl ?_
  refine w_aload_n rfl rfl ?_
  obtain ⟨g3, H⟩ := H
  refine c_getr rfl rfl rfl g3 ?_
  obtain ⟨g4, H⟩ := H
  refine c_get rfl rfl rfl g4 ?_
  refine w_static (as := [vi (fI s2 (fR s2 a1 2) 1)]) (r := [vr a0]) rfl rfl rfl rfl rfl (wc_mono H (Nat.le_refl _) ?_)
  rintro _ s5 ⟨r6, rfl, H⟩
  show wk iv L h0 (d + 1) 253 17 [lr a0, lr a1] [vr r6, vr a0] s5 (qv F)
  obtain ⟨g7, H⟩ := H
  refine c_virt (p := a0) (as := [vr r6]) (r := []) rfl rfl rfl rfl rfl rfl g7 (wc_mono H (Nat.le_refl _) ?_)
  rintro _ s8 ⟨rfl, H⟩
  show wk iv L h0 (d + 1) 253 20 [lr a0, lr a1] [] s8 (qv F)
  refine w_aload_n rfl rfl ?_
  refine w_null rfl ?_
  refine w_bipush (n := 41) rfl rfl rfl ?_
  obtain ⟨g9, H⟩ := H
  refine c_virt (p := a0) (as := [vr 2, vi 41]) (r := []) rfl rfl rfl rfl rfl rfl g9 (wc_mono H (Nat.le_refl _) ?_)
  rintro _ s10 ⟨rfl, H⟩
  show wk iv L h0 (d + 1) 253 27 [lr a0, lr a1] [] s10 (qv F)
  refine w_aload_n rfl rfl ?_
  obtain ⟨g11, H⟩ := H
  refine c_getr rfl rfl rfl g11 ?_
  obtain ⟨g12, H⟩ := H
  refine c_get rfl rfl rfl g12 ?_
  refine w_bipush (n := 11) rfl rfl rfl ?_
  refine w_icmp_ne rfl (fun h => ?_) (fun h => ?_)
  · replace H := H.1 h
    refine w_aload_n rfl rfl ?_
    refine c_getr rfl rfl rfl g11 ?_
    refine c_null rfl (fun h => ?_) (fun h => ?_)
    · replace H := H.1 h
      refine w_aload_n rfl rfl ?_
      refine w_aload_n rfl rfl ?_
      refine c_getr rfl rfl rfl g11 ?_
      refine w_iconst (n := 0) rfl rfl ?_
      obtain ⟨g13, H⟩ := H
      refine c_virt (p := a0) (as := [vr (fR s10 a1 3), vi 0]) (r := []) rfl rfl rfl rfl rfl rfl g13 (wc_mono H (Nat.le_refl _) ?_)
      rintro _ s14 ⟨rfl, H⟩
      show wk iv L h0 (d + 1) 253 92 [lr a0, lr a1] [] s14 (qv F)
      refine w_aload_n rfl rfl ?_
      refine w_null rfl ?_
      refine w_bipush (n := 32) rfl rfl rfl ?_
      obtain ⟨g15, H⟩ := H
      refine c_virt (p := a0) (as := [vr 2, vi 32]) (r := []) rfl rfl rfl rfl rfl rfl g15 (wc_mono H (Nat.le_refl _) ?_)
      rintro _ s16 ⟨rfl, H⟩
      show wk iv L h0 (d + 1) 253 99 [lr a0, lr a1] [] s16 (qv F)
      exact w_ret rfl rfl ⟨rfl, H⟩
    · replace H := H.2 h
      refine w_aload_n rfl rfl ?_
      refine w_aload_n rfl rfl ?_
      refine c_getr rfl rfl rfl g11 ?_
      refine w_iconst (n := 0) rfl rfl ?_
      obtain ⟨g17, H⟩ := H
      refine c_virt (p := a0) (as := [vr (fR s10 a1 4), vi 0]) (r := []) rfl rfl rfl rfl rfl rfl g17 (wc_mono H (Nat.le_refl _) ?_)
      rintro _ s18 ⟨rfl, H⟩
      show wk iv L h0 (d + 1) 253 76 [lr a0, lr a1] [] s18 (qv F)
      refine w_aload_n rfl rfl ?_
      refine w_null rfl ?_
      refine w_bipush (n := 32) rfl rfl rfl ?_
      obtain ⟨g19, H⟩ := H
      refine c_virt (p := a0) (as := [vr 2, vi 32]) (r := []) rfl rfl rfl rfl rfl rfl g19 (wc_mono H (Nat.le_refl _) ?_)
      rintro _ s20 ⟨rfl, H⟩
      show wk iv L h0 (d + 1) 253 83 [lr a0, lr a1] [] s20 (qv F)
      refine w_aload_n rfl rfl ?_
      refine w_aload_n rfl rfl ?_
      obtain ⟨g21, H⟩ := H
      refine c_getr rfl rfl rfl g21 ?_
      refine w_iconst (n := 0) rfl rfl ?_
      obtain ⟨g22, H⟩ := H
      refine c_virt (p := a0) (as := [vr (fR s20 a1 3), vi 0]) (r := []) rfl rfl rfl rfl rfl rfl g22 (wc_mono H (Nat.le_refl _) ?_)
      rintro _ s23 ⟨rfl, H⟩
      show wk iv L h0 (d + 1) 253 92 [lr a0, lr a1] [] s23 (qv F)
      refine w_aload_n rfl rfl ?_
      refine w_null rfl ?_
      refine w_bipush (n := 32) rfl rfl rfl ?_
      obtain ⟨g24, H⟩ := H
      refine c_virt (p := a0) (as := [vr 2, vi 32]) (r := []) rfl rfl rfl rfl rfl rfl g24 (wc_mono H (Nat.le_refl _) ?_)
      rintro _ s25 ⟨rfl, H⟩
      show wk iv L h0 (d + 1) 253 99 [lr a0, lr a1] [] s25 (qv F)
      exact w_ret rfl rfl ⟨rfl, H⟩
  · replace H := H.2 h
    refine w_aload_n rfl rfl ?_
    refine w_null rfl ?_
    refine w_iconst (n := (-1)) rfl rfl ?_
    refine w_aload_n rfl rfl ?_
    refine c_getr rfl rfl rfl g11 ?_
    refine c_get rfl rfl rfl g12 ?_
    obtain ⟨g26, H⟩ := H
    refine w_isub rfl g26 ?_
    obtain ⟨g27, H⟩ := H
    refine c_virt (p := a0) (as := [vr 2, vi ((-1) - (fI s10 (fR s10 a1 2) 0))]) (r := []) rfl rfl rfl rfl rfl rfl g27 (wc_mono H (Nat.le_refl _) ?_)
    rintro _ s28 ⟨rfl, H⟩
    show wk iv L h0 (d + 1) 253 53 [lr a0, lr a1] [] s28 (qv F)
    refine w_aload_n rfl rfl ?_
    refine w_null rfl ?_
    refine w_bipush (n := 32) rfl rfl rfl ?_
    obtain ⟨g29, H⟩ := H
    refine c_virt (p := a0) (as := [vr 2, vi 32]) (r := []) rfl rfl rfl rfl rfl rfl g29 (wc_mono H (Nat.le_refl _) ?_)
    rintro _ s30 ⟨rfl, H⟩
    show wk iv L h0 (d + 1) 253 60 [lr a0, lr a1] [] s30 (qv F)
    refine w_aload_n rfl rfl ?_
    obtain ⟨g31, H⟩ := H
    refine c_getr rfl rfl rfl g31 ?_
    refine c_null rfl (fun h => ?_) (fun h => ?_)
    · replace H := H.1 h
      refine w_aload_n rfl rfl ?_
      refine w_aload_n rfl rfl ?_
      refine c_getr rfl rfl rfl g31 ?_
      refine w_iconst (n := 0) rfl rfl ?_
      obtain ⟨g32, H⟩ := H
      refine c_virt (p := a0) (as := [vr (fR s30 a1 3), vi 0]) (r := []) rfl rfl rfl rfl rfl rfl g32 (wc_mono H (Nat.le_refl _) ?_)
      rintro _ s33 ⟨rfl, H⟩
      show wk iv L h0 (d + 1) 253 92 [lr a0, lr a1] [] s33 (qv F)
      refine w_aload_n rfl rfl ?_
      refine w_null rfl ?_
      refine w_bipush (n := 32) rfl rfl rfl ?_
      obtain ⟨g34, H⟩ := H
      refine c_virt (p := a0) (as := [vr 2, vi 32]) (r := []) rfl rfl rfl rfl rfl rfl g34 (wc_mono H (Nat.le_refl _) ?_)
      rintro _ s35 ⟨rfl, H⟩
      show wk iv L h0 (d + 1) 253 99 [lr a0, lr a1] [] s35 (qv F)
      exact w_ret rfl rfl ⟨rfl, H⟩
    · replace H := H.2 h
      refine w_aload_n rfl rfl ?_
      refine w_aload_n rfl rfl ?_
      refine c_getr rfl rfl rfl g31 ?_
      refine w_iconst (n := 0) rfl rfl ?_
      obtain ⟨g36, H⟩ := H
      refine c_virt (p := a0) (as := [vr (fR s30 a1 4), vi 0]) (r := []) rfl rfl rfl rfl rfl rfl g36 (wc_mono H (Nat.le_refl _) ?_)
      rintro _ s37 ⟨rfl, H⟩
      show wk iv L h0 (d + 1) 253 76 [lr a0, lr a1] [] s37 (qv F)
      refine w_aload_n rfl rfl ?_
      refine w_null rfl ?_
      refine w_bipush (n := 32) rfl rfl rfl ?_
      obtain ⟨g38, H⟩ := H
      refine c_virt (p := a0) (as := [vr 2, vi 32]) (r := []) rfl rfl rfl rfl rfl rfl g38 (wc_mono H (Nat.le_refl _) ?_)
      rintro _ s39 ⟨rfl, H⟩
      show wk iv L h0 (d + 1) 253 83 [lr a0, lr a1] [] s39 (qv F)
      refine w_aload_n rfl rfl ?_
      refine w_aload_n rfl rfl ?_
      obtain ⟨g40, H⟩ := H
      refine c_getr rfl rfl rfl g40 ?_
      refine w_iconst (n := 0) rfl rfl ?_
      obtain ⟨g41, H⟩ := H
      refine c_virt (p := a0) (as := [vr (fR s39 a1 3), vi 0]) (r := []) rfl rfl rfl rfl rfl rfl g41 (wc_mono H (Nat.le_refl _) ?_)
      rintro _ s42 ⟨rfl, H⟩
      show wk iv L h0 (d + 1) 253 92 [lr a0, lr a1] [] s42 (qv F)
      refine w_aload_n rfl rfl ?_
      refine w_null rfl ?_
      refine w_bipush (n := 32) rfl rfl rfl ?_
      obtain ⟨g43, H⟩ := H
      refine c_virt (p := a0) (as := [vr 2, vi 32]) (r := []) rfl rfl rfl rfl rfl rfl g43 (wc_mono H (Nat.le_refl _) ?_)
      rintro _ s44 ⟨rfl, H⟩
      show wk iv L h0 (d + 1) 253 99 [lr a0, lr a1] [] s44 (qv F)
      exact w_ret rfl rfl ⟨rfl, H⟩

/-- HoleDesk$Writer.wordOf(I)Ljava/lang/String; -/
theorem C254 {iv : List (Int × Int)} {L : Nat} {h0 : MH} {d : Nat} {s : SC} {a1 : Int} {F : Nat → SC → Prop} (H : ((a1 = 4 → F 11 s) ∧ (a1 = 5 → F 12 s) ∧ (a1 = 6 → F 13 s) ∧ (a1 = 7 → F 14 s) ∧ (a1 = 8 ∨ a1 = 10 ∨ a1 = 12 ∨ a1 < 4 ∨ 13 < a1 → F 18 s) ∧ (a1 = 9 → F 15 s) ∧ (a1 = 11 → F 16 s) ∧ (a1 = 13 → F 17 s))) : ck iv L h0 d 254 [vi a1] s (qa F) := by
  show wk iv L h0 d 254 0 [li a1] [] s (qa F)
  refine w_iload_n rfl rfl ?_
  have J56 : (a1 = 4) → wk iv L h0 d 254 56 [li a1] [] s (qa F) := fun h => by
    replace H := H.1 h
    refine w_ldcs (x := 11) rfl rfl (by decide) ?_
    exact w_aret rfl rfl ⟨_, rfl, H⟩
  have J59 : (a1 = 5) → wk iv L h0 d 254 59 [li a1] [] s (qa F) := fun h => by
    replace H := H.2.1 h
    refine w_ldcs (x := 12) rfl rfl (by decide) ?_
    exact w_aret rfl rfl ⟨_, rfl, H⟩
  have J62 : (a1 = 6) → wk iv L h0 d 254 62 [li a1] [] s (qa F) := fun h => by
    replace H := H.2.2.1 h
    refine w_ldcs (x := 13) rfl rfl (by decide) ?_
    exact w_aret rfl rfl ⟨_, rfl, H⟩
  have J65 : (a1 = 7) → wk iv L h0 d 254 65 [li a1] [] s (qa F) := fun h => by
    replace H := H.2.2.2.1 h
    refine w_ldcs (x := 14) rfl rfl (by decide) ?_
    exact w_aret rfl rfl ⟨_, rfl, H⟩
  have J77 : (a1 = 8 ∨ a1 = 10 ∨ a1 = 12 ∨ a1 < 4 ∨ 13 < a1) → wk iv L h0 d 254 77 [li a1] [] s (qa F) := fun h => by
    replace H := H.2.2.2.2.1 h
    refine w_ldcs (x := 18) rfl rfl (by decide) ?_
    exact w_aret rfl rfl ⟨_, rfl, H⟩
  have J68 : (a1 = 9) → wk iv L h0 d 254 68 [li a1] [] s (qa F) := fun h => by
    replace H := H.2.2.2.2.2.1 h
    refine w_ldcs (x := 15) rfl rfl (by decide) ?_
    exact w_aret rfl rfl ⟨_, rfl, H⟩
  have J71 : (a1 = 11) → wk iv L h0 d 254 71 [li a1] [] s (qa F) := fun h => by
    replace H := H.2.2.2.2.2.2.1 h
    refine w_ldcs (x := 16) rfl rfl (by decide) ?_
    exact w_aret rfl rfl ⟨_, rfl, H⟩
  have J74 : (a1 = 13) → wk iv L h0 d 254 74 [li a1] [] s (qa F) := fun h => by
    replace H := H.2.2.2.2.2.2.2 h
    refine w_ldcs (x := 17) rfl rfl (by decide) ?_
    exact w_aret rfl rfl ⟨_, rfl, H⟩
  refine w_tsw (td := 77) (ts := [56, 59, 62, 65, 77, 68, 77, 71, 77, 74]) rfl rfl rfl rfl rfl rfl (fun h => J77 (by omega)) ?_
  exact swA_c (fun h => J56 (by omega)) (swA_c (fun h => J59 (by omega)) (swA_c (fun h => J62 (by omega)) (swA_c (fun h => J65 (by omega)) (swA_c (fun h => J77 (by omega)) (swA_c (fun h => J68 (by omega)) (swA_c (fun h => J77 (by omega)) (swA_c (fun h => J71 (by omega)) (swA_c (fun h => J77 (by omega)) (swA_c (fun h => J74 (by omega)) (swA_n))))))))))
end
