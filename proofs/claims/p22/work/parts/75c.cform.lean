/-! What the methods of the desk come to. Printed by wip/gen2/gens.py. -/
/-- HoleDesk$Copy.copyOf(LHoleDesk$Sheet;LHoleDesk$Node;)V -/
theorem C160 {iv : List (Int × Int)} {L : Nat} {h0 : MH} {d : Nat} {s : SC} {a0 : Nat} {a1 : Nat} {a2 : Nat} {F : SC → Prop} (H : (kl s a1 = 8) ∧ ck iv L h0 d 209 [vr a1, vr a2] s (qi fun r3 s2 => (kl s2 a0 = 2) ∧ wk iv L h0 (d + 1) 160 11 [lr a0, lr a1, lr a2, li 0] [] (uI s2 a0 5 r3) (qv F))) : ck iv L h0 (d + 1) 160 [vr a0, vr a1, vr a2] s (qv F) := by
  show wk iv L h0 (d + 1) 160 0 [lr a0, lr a1, lr a2] [] s (qv F)
  refine w_aload_n rfl rfl ?_
  refine w_aload_n rfl rfl ?_
  refine w_aload_n rfl rfl ?_
  obtain ⟨g1, H⟩ := H
  refine c_virt (p := a1) (as := [vr a2]) (r := [vr a0]) rfl rfl rfl rfl rfl rfl g1 (wc_mono H (Nat.le_refl _) ?_)
  rintro _ s2 ⟨r3, rfl, H⟩
  show wk iv L h0 (d + 1) 160 6 [lr a0, lr a1, lr a2] [vi r3, vr a0] s2 (qv F)
  obtain ⟨g4, H⟩ := H
  refine c_put rfl rfl rfl rfl g4 ?_
  refine w_iconst (n := 0) rfl rfl ?_
  refine w_istore_n rfl rfl ?_
  exact wp_ls (sl_s (sl_s (sl_s (sl_s (sl_0))))) H

/-- HoleDesk$Copy.copyOf(LHoleDesk$Sheet;LHoleDesk$Node;)V at 11 -/
theorem C160_11 {iv : List (Int × Int)} {L : Nat} {h0 : MH} {d : Nat} {s : SC} {l0 : Nat} {l1 : Nat} {l2 : Nat} {l3 : Int} {F : SC → Prop} (H : (kl s l0 = 2) ∧ ((fI s l0 5 ≤ l3 → F s) ∧ (l3 < fI s l0 5 → (kl s l1 = 8) ∧ (kl s l2 = 5) ∧ (-2147483648 ≤ (fI s l2 7) + l3 ∧ (fI s l2 7) + l3 ≤ 2147483647) ∧ (kl s (fR s l1 0) = 103) ∧ (0 ≤ (fI s l2 7) + l3 ∧ (fI s l2 7) + l3 < le s (fR s l1 0)) ∧ (kl s (aR s (fR s l1 0) ((fI s l2 7) + l3)) = 5) ∧ (kl s (fR s l0 0) = 100) ∧ (0 ≤ l3 ∧ l3 < le s (fR s l0 0)) ∧ (kl s (fR s l0 1) = 100) ∧ (0 ≤ l3 ∧ l3 < le s (fR s l0 1)) ∧ (kl s (fR s l0 2) = 100) ∧ (0 ≤ l3 ∧ l3 < le s (fR s l0 2)) ∧ ((l3 ≠ 0 → (kl s (fR s (aR s (fR s l1 0) ((fI s l2 7) + l3)) 5) = 5) ∧ (-2147483648 ≤ (fI s (fR s (aR s (fR s l1 0) ((fI s l2 7) + l3)) 5) 7) - (fI s l2 7) ∧ (fI s (fR s (aR s (fR s l1 0) ((fI s l2 7) + l3)) 5) 7) - (fI s l2 7) ≤ 2147483647) ∧ (kl s (fR s l0 3) = 100) ∧ (0 ≤ l3 ∧ l3 < le s (fR s l0 3)) ∧ (kl s (fR s l0 4) = 100) ∧ (0 ≤ l3 ∧ l3 < le s (fR s l0 4)) ∧ (-2147483648 ≤ l3 + 1 ∧ l3 + 1 ≤ 2147483647) ∧ wk iv L h0 (d + 1) 160 11 [lr l0, lr l1, lr l2, li (l3 + 1)] [] (uA (uA (uA (uA (uA s (fR s l0 0) l3 (fI s (aR s (fR s l1 0) ((fI s l2 7) + l3)) 1)) (fR s l0 1) l3 (fI s (aR s (fR s l1 0) ((fI s l2 7) + l3)) 4)) (fR s l0 2) l3 (fI s (aR s (fR s l1 0) ((fI s l2 7) + l3)) 2)) (fR s l0 3) l3 ((fI s (fR s (aR s (fR s l1 0) ((fI s l2 7) + l3)) 5) 7) - (fI s l2 7))) (fR s l0 4) l3 (fI s (aR s (fR s l1 0) ((fI s l2 7) + l3)) 6)) (qv F)) ∧ (l3 = 0 → (kl s (fR s l0 3) = 100) ∧ (0 ≤ l3 ∧ l3 < le s (fR s l0 3)) ∧ (kl s (fR s l0 4) = 100) ∧ (0 ≤ l3 ∧ l3 < le s (fR s l0 4)) ∧ (-2147483648 ≤ l3 + 1 ∧ l3 + 1 ≤ 2147483647) ∧ wk iv L h0 (d + 1) 160 11 [lr l0, lr l1, lr l2, li (l3 + 1)] [] (uA (uA (uA (uA (uA s (fR s l0 0) l3 (fI s (aR s (fR s l1 0) ((fI s l2 7) + l3)) 1)) (fR s l0 1) l3 (fI s (aR s (fR s l1 0) ((fI s l2 7) + l3)) 4)) (fR s l0 2) l3 (fI s (aR s (fR s l1 0) ((fI s l2 7) + l3)) 2)) (fR s l0 3) l3 (-9)) (fR s l0 4) l3 (fI s (aR s (fR s l1 0) ((fI s l2 7) + l3)) 6)) (qv F)))))) : wk iv L h0 (d + 1) 160 11 [lr l0, lr l1, lr l2, li l3] [] s (qv F) := by
  refine w_iload_n rfl rfl ?_
  refine w_aload_n rfl rfl ?_
  obtain ⟨g1, H⟩ := H
  refine c_get rfl rfl rfl g1 ?_
  refine w_icmp_ge rfl (fun h => ?_) (fun h => ?_)
  · replace H := H.1 h
    exact w_ret rfl rfl ⟨rfl, H⟩
  · replace H := H.2 h
    refine w_aload_n rfl rfl ?_
    obtain ⟨g2, H⟩ := H
    refine c_getr rfl rfl rfl g2 ?_
    refine w_aload_n rfl rfl ?_
    obtain ⟨g3, H⟩ := H
    refine c_get rfl rfl rfl g3 ?_
    refine w_iload_n rfl rfl ?_
    obtain ⟨g4, H⟩ := H
    refine w_iadd rfl g4 ?_
    obtain ⟨g5, H⟩ := H
    obtain ⟨g6, H⟩ := H
    refine c_aald (t := 3) rfl ⟨g5, by decide, by decide⟩ g6 ?_
    refine w_astore rfl rfl ?_
    refine w_aload_n rfl rfl ?_
    refine c_getr rfl rfl rfl g1 ?_
    refine w_iload_n rfl rfl ?_
    refine w_aload rfl rfl ?_
    obtain ⟨g7, H⟩ := H
    refine c_get rfl rfl rfl g7 ?_
    obtain ⟨g8, H⟩ := H
    obtain ⟨g9, H⟩ := H
    refine c_ast rfl g8 g9 ?_
    refine w_aload_n rfl rfl ?_
    refine c_getr rfl rfl rfl g1 ?_
    show wk iv L h0 (d + 1) 160 47 [lr l0, lr l1, lr l2, li l3, lr (aR s (fR s l1 0) ((fI s l2 7) + l3))] [vr (fR s l0 1)] (uA s (fR s l0 0) l3 (fI s (aR s (fR s l1 0) ((fI s l2 7) + l3)) 1)) (qv F)
    refine w_iload_n rfl rfl ?_
    refine w_aload rfl rfl ?_
    refine c_get rfl rfl rfl g7 ?_
    show wk iv L h0 (d + 1) 160 53 [lr l0, lr l1, lr l2, li l3, lr (aR s (fR s l1 0) ((fI s l2 7) + l3))] [vi (fI s (aR s (fR s l1 0) ((fI s l2 7) + l3)) 4), vi l3, vr (fR s l0 1)] (uA s (fR s l0 0) l3 (fI s (aR s (fR s l1 0) ((fI s l2 7) + l3)) 1)) (qv F)
    obtain ⟨g10, H⟩ := H
    obtain ⟨g11, H⟩ := H
    refine c_ast rfl g10 g11 ?_
    refine w_aload_n rfl rfl ?_
    refine c_getr rfl rfl rfl g1 ?_
    show wk iv L h0 (d + 1) 160 58 [lr l0, lr l1, lr l2, li l3, lr (aR s (fR s l1 0) ((fI s l2 7) + l3))] [vr (fR s l0 2)] (uA (uA s (fR s l0 0) l3 (fI s (aR s (fR s l1 0) ((fI s l2 7) + l3)) 1)) (fR s l0 1) l3 (fI s (aR s (fR s l1 0) ((fI s l2 7) + l3)) 4)) (qv F)
    refine w_iload_n rfl rfl ?_
    refine w_aload rfl rfl ?_
    refine c_get rfl rfl rfl g7 ?_
    show wk iv L h0 (d + 1) 160 64 [lr l0, lr l1, lr l2, li l3, lr (aR s (fR s l1 0) ((fI s l2 7) + l3))] [vi (fI s (aR s (fR s l1 0) ((fI s l2 7) + l3)) 2), vi l3, vr (fR s l0 2)] (uA (uA s (fR s l0 0) l3 (fI s (aR s (fR s l1 0) ((fI s l2 7) + l3)) 1)) (fR s l0 1) l3 (fI s (aR s (fR s l1 0) ((fI s l2 7) + l3)) 4)) (qv F)
    obtain ⟨g12, H⟩ := H
    obtain ⟨g13, H⟩ := H
    refine c_ast rfl g12 g13 ?_
    refine w_aload_n rfl rfl ?_
    refine c_getr rfl rfl rfl g1 ?_
    show wk iv L h0 (d + 1) 160 69 [lr l0, lr l1, lr l2, li l3, lr (aR s (fR s l1 0) ((fI s l2 7) + l3))] [vr (fR s l0 3)] (uA (uA (uA s (fR s l0 0) l3 (fI s (aR s (fR s l1 0) ((fI s l2 7) + l3)) 1)) (fR s l0 1) l3 (fI s (aR s (fR s l1 0) ((fI s l2 7) + l3)) 4)) (fR s l0 2) l3 (fI s (aR s (fR s l1 0) ((fI s l2 7) + l3)) 2)) (qv F)
    refine w_iload_n rfl rfl ?_
    refine w_iload_n rfl rfl ?_
    refine w_if_ne rfl (fun h => ?_) (fun h => ?_)
    · replace H := H.1 h
      refine w_aload rfl rfl ?_
      refine c_getr rfl rfl rfl g7 ?_
      show wk iv L h0 (d + 1) 160 84 [lr l0, lr l1, lr l2, li l3, lr (aR s (fR s l1 0) ((fI s l2 7) + l3))] [vr (fR s (aR s (fR s l1 0) ((fI s l2 7) + l3)) 5), vi l3, vr (fR s l0 3)] (uA (uA (uA s (fR s l0 0) l3 (fI s (aR s (fR s l1 0) ((fI s l2 7) + l3)) 1)) (fR s l0 1) l3 (fI s (aR s (fR s l1 0) ((fI s l2 7) + l3)) 4)) (fR s l0 2) l3 (fI s (aR s (fR s l1 0) ((fI s l2 7) + l3)) 2)) (qv F)
      obtain ⟨g14, H⟩ := H
      refine c_get rfl rfl rfl g14 ?_
      show wk iv L h0 (d + 1) 160 87 [lr l0, lr l1, lr l2, li l3, lr (aR s (fR s l1 0) ((fI s l2 7) + l3))] [vi (fI s (fR s (aR s (fR s l1 0) ((fI s l2 7) + l3)) 5) 7), vi l3, vr (fR s l0 3)] (uA (uA (uA s (fR s l0 0) l3 (fI s (aR s (fR s l1 0) ((fI s l2 7) + l3)) 1)) (fR s l0 1) l3 (fI s (aR s (fR s l1 0) ((fI s l2 7) + l3)) 4)) (fR s l0 2) l3 (fI s (aR s (fR s l1 0) ((fI s l2 7) + l3)) 2)) (qv F)
      refine w_aload_n rfl rfl ?_
      refine c_get rfl rfl rfl g3 ?_
      show wk iv L h0 (d + 1) 160 91 [lr l0, lr l1, lr l2, li l3, lr (aR s (fR s l1 0) ((fI s l2 7) + l3))] [vi (fI s l2 7), vi (fI s (fR s (aR s (fR s l1 0) ((fI s l2 7) + l3)) 5) 7), vi l3, vr (fR s l0 3)] (uA (uA (uA s (fR s l0 0) l3 (fI s (aR s (fR s l1 0) ((fI s l2 7) + l3)) 1)) (fR s l0 1) l3 (fI s (aR s (fR s l1 0) ((fI s l2 7) + l3)) 4)) (fR s l0 2) l3 (fI s (aR s (fR s l1 0) ((fI s l2 7) + l3)) 2)) (qv F)
      obtain ⟨g15, H⟩ := H
      refine w_isub rfl g15 ?_
      obtain ⟨g16, H⟩ := H
      obtain ⟨g17, H⟩ := H
      refine c_ast rfl g16 g17 ?_
      refine w_aload_n rfl rfl ?_
      refine c_getr rfl rfl rfl g1 ?_
      show wk iv L h0 (d + 1) 160 97 [lr l0, lr l1, lr l2, li l3, lr (aR s (fR s l1 0) ((fI s l2 7) + l3))] [vr (fR s l0 4)] (uA (uA (uA (uA s (fR s l0 0) l3 (fI s (aR s (fR s l1 0) ((fI s l2 7) + l3)) 1)) (fR s l0 1) l3 (fI s (aR s (fR s l1 0) ((fI s l2 7) + l3)) 4)) (fR s l0 2) l3 (fI s (aR s (fR s l1 0) ((fI s l2 7) + l3)) 2)) (fR s l0 3) l3 ((fI s (fR s (aR s (fR s l1 0) ((fI s l2 7) + l3)) 5) 7) - (fI s l2 7))) (qv F)
      refine w_iload_n rfl rfl ?_
      refine w_aload rfl rfl ?_
      refine c_get rfl rfl rfl g7 ?_
      show wk iv L h0 (d + 1) 160 103 [lr l0, lr l1, lr l2, li l3, lr (aR s (fR s l1 0) ((fI s l2 7) + l3))] [vi (fI s (aR s (fR s l1 0) ((fI s l2 7) + l3)) 6), vi l3, vr (fR s l0 4)] (uA (uA (uA (uA s (fR s l0 0) l3 (fI s (aR s (fR s l1 0) ((fI s l2 7) + l3)) 1)) (fR s l0 1) l3 (fI s (aR s (fR s l1 0) ((fI s l2 7) + l3)) 4)) (fR s l0 2) l3 (fI s (aR s (fR s l1 0) ((fI s l2 7) + l3)) 2)) (fR s l0 3) l3 ((fI s (fR s (aR s (fR s l1 0) ((fI s l2 7) + l3)) 5) 7) - (fI s l2 7))) (qv F)
      obtain ⟨g18, H⟩ := H
      obtain ⟨g19, H⟩ := H
      refine c_ast rfl g18 g19 ?_
      obtain ⟨g20, H⟩ := H
      refine w_iinc rfl rfl rfl g20 ?_
      refine w_goto rfl ?_
      exact wp_ls (sl_s (sl_s (sl_s (sl_s (sl_0))))) H
    · replace H := H.2 h
      refine w_bipush (n := (-9)) rfl rfl rfl ?_
      refine w_goto rfl ?_
      obtain ⟨g21, H⟩ := H
      obtain ⟨g22, H⟩ := H
      refine c_ast rfl g21 g22 ?_
      refine w_aload_n rfl rfl ?_
      refine c_getr rfl rfl rfl g1 ?_
      show wk iv L h0 (d + 1) 160 97 [lr l0, lr l1, lr l2, li l3, lr (aR s (fR s l1 0) ((fI s l2 7) + l3))] [vr (fR s l0 4)] (uA (uA (uA (uA s (fR s l0 0) l3 (fI s (aR s (fR s l1 0) ((fI s l2 7) + l3)) 1)) (fR s l0 1) l3 (fI s (aR s (fR s l1 0) ((fI s l2 7) + l3)) 4)) (fR s l0 2) l3 (fI s (aR s (fR s l1 0) ((fI s l2 7) + l3)) 2)) (fR s l0 3) l3 (-9)) (qv F)
      refine w_iload_n rfl rfl ?_
      refine w_aload rfl rfl ?_
      refine c_get rfl rfl rfl g7 ?_
      show wk iv L h0 (d + 1) 160 103 [lr l0, lr l1, lr l2, li l3, lr (aR s (fR s l1 0) ((fI s l2 7) + l3))] [vi (fI s (aR s (fR s l1 0) ((fI s l2 7) + l3)) 6), vi l3, vr (fR s l0 4)] (uA (uA (uA (uA s (fR s l0 0) l3 (fI s (aR s (fR s l1 0) ((fI s l2 7) + l3)) 1)) (fR s l0 1) l3 (fI s (aR s (fR s l1 0) ((fI s l2 7) + l3)) 4)) (fR s l0 2) l3 (fI s (aR s (fR s l1 0) ((fI s l2 7) + l3)) 2)) (fR s l0 3) l3 (-9)) (qv F)
      obtain ⟨g23, H⟩ := H
      obtain ⟨g24, H⟩ := H
      refine c_ast rfl g23 g24 ?_
      obtain ⟨g25, H⟩ := H
      refine w_iinc rfl rfl rfl g25 ?_
      refine w_goto rfl ?_
      exact wp_ls (sl_s (sl_s (sl_s (sl_s (sl_0))))) H

/-- HoleDesk$Copy.bornInto(LHoleDesk$Sheet;)LHoleDesk$Node; -/
theorem C161 {iv : List (Int × Int)} {L : Nat} {h0 : MH} {d : Nat} {s : SC} {a0 : Nat} {a1 : Nat} {F : Nat → SC → Prop} (H : (kl s a0 = 2) ∧ (0 ≤ fI s a0 5 ∧ fI s a0 5 ≤ 67108864) ∧ (353 ≤ nxt s) ∧ wk iv L h0 (d + 1) 161 10 [lr a0, lr a1, lr (nxt s), li 0] [] (nA s 3 (fI s a0 5)) (qa F)) : ck iv L h0 (d + 1) 161 [vr a0, vr a1] s (qa F) := by
  show wk iv L h0 (d + 1) 161 0 [lr a0, lr a1] [] s (qa F)
  refine w_aload_n rfl rfl ?_
  obtain ⟨g1, H⟩ := H
  refine c_get rfl rfl rfl g1 ?_
  obtain ⟨g2, H⟩ := H
  obtain ⟨g3, H⟩ := H
  refine c_anewa rfl rfl g2 g3 ?_
  show wk iv L h0 (d + 1) 161 7 [lr a0, lr a1] [vr (nxt s)] (nA s 3 (fI s a0 5)) (qa F)
  refine w_astore_n rfl rfl ?_
  refine w_iconst (n := 0) rfl rfl ?_
  refine w_istore_n rfl rfl ?_
  exact wp_ls (sl_s (sl_s (sl_s (sl_s (sl_0))))) H

/-- HoleDesk$Copy.bornInto(LHoleDesk$Sheet;)LHoleDesk$Node; at 10 -/
theorem C161_10 {iv : List (Int × Int)} {L : Nat} {h0 : MH} {d : Nat} {s : SC} {l0 : Nat} {l1 : Nat} {l2 : Nat} {l3 : Int} {F : Nat → SC → Prop} (H : (kl s l0 = 2) ∧ ((fI s l0 5 ≤ l3 → ((fI s l0 5 ≤ 0 → F 2 s) ∧ (0 < fI s l0 5 → (kl s l2 = 103) ∧ ((0 : Int) ≤ 0 ∧ 0 < le s l2) ∧ F (aR s l2 0) s))) ∧ (l3 < fI s l0 5 → (kl s (fR s l0 0) = 100) ∧ (0 ≤ l3 ∧ l3 < le s (fR s l0 0)) ∧ (kl s (fR s l0 1) = 100) ∧ (0 ≤ l3 ∧ l3 < le s (fR s l0 1)) ∧ (kl s (fR s l0 2) = 100) ∧ (0 ≤ l3 ∧ l3 < le s (fR s l0 2)) ∧ (kl s l1 = 8) ∧ ck iv L h0 d 204 [vr l1, vi (aI s (fR s l0 0) l3), vi (aI s (fR s l0 1) l3), vi (aI s (fR s l0 2) l3)] s (qa fun r12 s11 => (kl s11 l2 = 103) ∧ (0 ≤ l3 ∧ l3 < le s11 l2) ∧ (r12 = 2 ∨ kl s11 r12 = 5) ∧ ((l3 ≤ 0 → (-2147483648 ≤ l3 + 1 ∧ l3 + 1 ≤ 2147483647) ∧ wk iv L h0 (d + 1) 161 10 [lr l0, lr l1, lr l2, li (l3 + 1)] [] (uB s11 l2 l3 r12) (qa F)) ∧ (0 < l3 → (kl s11 l0 = 2) ∧ (kl s11 (fR s11 l0 3) = 100) ∧ (0 ≤ l3 ∧ l3 < le s11 (fR s11 l0 3)) ∧ (0 ≤ aI s11 (fR s11 l0 3) l3 ∧ aI s11 (fR s11 l0 3) l3 < le s11 l2) ∧ (kl s11 (fR s11 l0 4) = 100) ∧ (0 ≤ l3 ∧ l3 < le s11 (fR s11 l0 4)) ∧ (kl s11 (aR (uB s11 l2 l3 r12) l2 (aI s11 (fR s11 l0 3) l3)) = 5) ∧ ck iv L h0 d 188 [vr (aR (uB s11 l2 l3 r12) l2 (aI s11 (fR s11 l0 3) l3)), vi (aI s11 (fR s11 l0 4) l3), vr (aR (uB s11 l2 l3 r12) l2 l3)] (uB s11 l2 l3 r12) (qv fun s24 => (-2147483648 ≤ l3 + 1 ∧ l3 + 1 ≤ 2147483647) ∧ wk iv L h0 (d + 1) 161 10 [lr l0, lr l1, lr l2, li (l3 + 1)] [] s24 (qa F)))))))) : wk iv L h0 (d + 1) 161 10 [lr l0, lr l1, lr l2, li l3] [] s (qa F) := by
  refine w_iload_n rfl rfl ?_
  refine w_aload_n rfl rfl ?_
  obtain ⟨g1, H⟩ := H
  refine c_get rfl rfl rfl g1 ?_
  refine w_icmp_ge rfl (fun h => ?_) (fun h => ?_)
  · replace H := H.1 h
    refine w_aload_n rfl rfl ?_
    refine c_get rfl rfl rfl g1 ?_
    refine w_if_le rfl (fun h => ?_) (fun h => ?_)
    · replace H := H.1 h
      refine w_null rfl ?_
      exact w_aret rfl rfl ⟨_, rfl, H⟩
    · replace H := H.2 h
      refine w_aload_n rfl rfl ?_
      refine w_iconst (n := 0) rfl rfl ?_
      obtain ⟨g2, H⟩ := H
      obtain ⟨g3, H⟩ := H
      refine c_aald (t := 3) rfl ⟨g2, by decide, by decide⟩ g3 ?_
      refine w_goto rfl ?_
      exact w_aret rfl rfl ⟨_, rfl, H⟩
  · replace H := H.2 h
    refine w_aload_n rfl rfl ?_
    refine w_iload_n rfl rfl ?_
    refine w_aload_n rfl rfl ?_
    refine w_aload_n rfl rfl ?_
    refine c_getr rfl rfl rfl g1 ?_
    refine w_iload_n rfl rfl ?_
    obtain ⟨g4, H⟩ := H
    obtain ⟨g5, H⟩ := H
    refine c_ald rfl g4 g5 ?_
    refine w_aload_n rfl rfl ?_
    refine c_getr rfl rfl rfl g1 ?_
    refine w_iload_n rfl rfl ?_
    obtain ⟨g6, H⟩ := H
    obtain ⟨g7, H⟩ := H
    refine c_ald rfl g6 g7 ?_
    refine w_aload_n rfl rfl ?_
    refine c_getr rfl rfl rfl g1 ?_
    refine w_iload_n rfl rfl ?_
    obtain ⟨g8, H⟩ := H
    obtain ⟨g9, H⟩ := H
    refine c_ald rfl g8 g9 ?_
    obtain ⟨g10, H⟩ := H
    refine c_virt (p := l1) (as := [vi (aI s (fR s l0 0) l3), vi (aI s (fR s l0 1) l3), vi (aI s (fR s l0 2) l3)]) (r := [vi l3, vr l2]) rfl rfl rfl rfl rfl rfl g10 (wc_mono H (Nat.le_refl _) ?_)
    rintro _ s11 ⟨r12, rfl, H⟩
    show wk iv L h0 (d + 1) 161 42 [lr l0, lr l1, lr l2, li l3] [vr r12, vi l3, vr l2] s11 (qa F)
    obtain ⟨g13, H⟩ := H
    obtain ⟨g14, H⟩ := H
    obtain ⟨g15, H⟩ := H
    refine c_aast rfl rfl g13 g14 (by rcases g15 with e | e; exact Or.inl e; exact Or.inr ⟨e, by decide⟩) ?_
    refine w_iload_n rfl rfl ?_
    refine w_if_le rfl (fun h => ?_) (fun h => ?_)
    · replace H := H.1 h
      obtain ⟨g16, H⟩ := H
      refine w_iinc rfl rfl rfl g16 ?_
      refine w_goto rfl ?_
      exact wp_ls (sl_s (sl_s (sl_s (sl_s (sl_0))))) H
    · replace H := H.2 h
      refine w_aload_n rfl rfl ?_
      refine w_aload_n rfl rfl ?_
      obtain ⟨g17, H⟩ := H
      refine c_getr rfl rfl rfl g17 ?_
      show wk iv L h0 (d + 1) 161 52 [lr l0, lr l1, lr l2, li l3] [vr (fR s11 l0 3), vr l2] (uB s11 l2 l3 r12) (qa F)
      refine w_iload_n rfl rfl ?_
      obtain ⟨g18, H⟩ := H
      obtain ⟨g19, H⟩ := H
      refine c_ald rfl g18 g19 ?_
      show wk iv L h0 (d + 1) 161 54 [lr l0, lr l1, lr l2, li l3] [vi (aI s11 (fR s11 l0 3) l3), vr l2] (uB s11 l2 l3 r12) (qa F)
      obtain ⟨g20, H⟩ := H
      refine c_aald (t := 3) rfl ⟨g13, by decide, by decide⟩ g20 ?_
      show wk iv L h0 (d + 1) 161 55 [lr l0, lr l1, lr l2, li l3] [vr (aR (uB s11 l2 l3 r12) l2 (aI s11 (fR s11 l0 3) l3))] (uB s11 l2 l3 r12) (qa F)
      refine w_aload_n rfl rfl ?_
      refine c_getr rfl rfl rfl g17 ?_
      show wk iv L h0 (d + 1) 161 59 [lr l0, lr l1, lr l2, li l3] [vr (fR s11 l0 4), vr (aR (uB s11 l2 l3 r12) l2 (aI s11 (fR s11 l0 3) l3))] (uB s11 l2 l3 r12) (qa F)
      refine w_iload_n rfl rfl ?_
      obtain ⟨g21, H⟩ := H
      obtain ⟨g22, H⟩ := H
      refine c_ald rfl g21 g22 ?_
      show wk iv L h0 (d + 1) 161 61 [lr l0, lr l1, lr l2, li l3] [vi (aI s11 (fR s11 l0 4) l3), vr (aR (uB s11 l2 l3 r12) l2 (aI s11 (fR s11 l0 3) l3))] (uB s11 l2 l3 r12) (qa F)
      refine w_aload_n rfl rfl ?_
      refine w_iload_n rfl rfl ?_
      refine c_aald (t := 3) rfl ⟨g13, by decide, by decide⟩ g14 ?_
      show wk iv L h0 (d + 1) 161 64 [lr l0, lr l1, lr l2, li l3] [vr (aR (uB s11 l2 l3 r12) l2 l3), vi (aI s11 (fR s11 l0 4) l3), vr (aR (uB s11 l2 l3 r12) l2 (aI s11 (fR s11 l0 3) l3))] (uB s11 l2 l3 r12) (qa F)
      obtain ⟨g23, H⟩ := H
      refine c_virt (p := (aR (uB s11 l2 l3 r12) l2 (aI s11 (fR s11 l0 3) l3))) (as := [vi (aI s11 (fR s11 l0 4) l3), vr (aR (uB s11 l2 l3 r12) l2 l3)]) (r := []) rfl rfl rfl rfl rfl rfl g23 (wc_mono H (Nat.le_refl _) ?_)
      rintro _ s24 ⟨rfl, H⟩
      show wk iv L h0 (d + 1) 161 67 [lr l0, lr l1, lr l2, li l3] [] s24 (qa F)
      obtain ⟨g25, H⟩ := H
      refine w_iinc rfl rfl rfl g25 ?_
      refine w_goto rfl ?_
      exact wp_ls (sl_s (sl_s (sl_s (sl_s (sl_0))))) H

/-- HoleDesk$Judge.<init>(LHoleDesk$Kinds;)V -/
theorem C162 {iv : List (Int × Int)} {L : Nat} {h0 : MH} {d : Nat} {s : SC} {a0 : Nat} {a1 : Nat} {F : SC → Prop} (H : (a0 ≠ 2) ∧ (kl s a0 = 3) ∧ F (uR s a0 0 a1)) : ck iv L h0 d 162 [vr a0, vr a1] s (qv F) := by
  show wk iv L h0 d 162 0 [lr a0, lr a1] [] s (qv F)
  refine w_aload_n rfl rfl ?_
  obtain ⟨g1, H⟩ := H
  refine c_oinit rfl rfl g1 ?_
  refine w_aload_n rfl rfl ?_
  refine w_aload_n rfl rfl ?_
  obtain ⟨g2, H⟩ := H
  refine c_putr rfl rfl rfl rfl g2 ?_
  exact w_ret rfl rfl ⟨rfl, H⟩

/-- HoleDesk$Judge.judgeAll(LHoleDesk$Node;)V -/
theorem C163 {iv : List (Int × Int)} {L : Nat} {h0 : MH} {d : Nat} {s : SC} {a0 : Nat} {a1 : Nat} {F : SC → Prop} (H : (kl s a0 = 3) ∧ (kl s (fR s a0 0) = 4) ∧ ck iv L h0 d 180 [vr (fR s a0 0)] s (qv fun s3 => (kl s3 a0 = 3) ∧ ck iv L h0 d 165 [vr a0, vr a1, vi (-1), vi 0] s3 (qi fun r6 s5 => F s5))) : ck iv L h0 (d + 1) 163 [vr a0, vr a1] s (qv F) := by
  show wk iv L h0 (d + 1) 163 0 [lr a0, lr a1] [] s (qv F)
  refine w_aload_n rfl rfl ?_
  obtain ⟨g1, H⟩ := H
  refine c_getr rfl rfl rfl g1 ?_
  obtain ⟨g2, H⟩ := H
  refine c_virt (p := (fR s a0 0)) (as := []) (r := []) rfl rfl rfl rfl rfl rfl g2 (wc_mono H (Nat.le_refl _) ?_)
  rintro _ s3 ⟨rfl, H⟩
  show wk iv L h0 (d + 1) 163 7 [lr a0, lr a1] [] s3 (qv F)
  refine w_aload_n rfl rfl ?_
  refine w_aload_n rfl rfl ?_
  refine w_iconst (n := (-1)) rfl rfl ?_
  refine w_iconst (n := 0) rfl rfl ?_
  obtain ⟨g4, H⟩ := H
  refine c_virt (p := a0) (as := [vr a1, vi (-1), vi 0]) (r := []) rfl rfl rfl rfl rfl rfl g4 (wc_mono H (Nat.le_refl _) ?_)
  rintro _ s5 ⟨r6, rfl, H⟩
  show wk iv L h0 (d + 1) 163 14 [lr a0, lr a1] [vi r6] s5 (qv F)
  refine w_pop rfl rfl ?_
  exact w_ret rfl rfl ⟨rfl, H⟩

/-- HoleDesk$Judge.wouldFit(LHoleDesk$Node;LHoleDesk$Node;)Z -/
theorem C164 {iv : List (Int × Int)} {L : Nat} {h0 : MH} {d : Nat} {s : SC} {a0 : Nat} {a1 : Nat} {a2 : Nat} {F : Int → SC → Prop} (H : (kl s a0 = 3) ∧ (kl s (fR s a0 0) = 4) ∧ (kl s a2 = 5) ∧ (kl s a1 = 5) ∧ ck iv L h0 d 165 [vr a0, vr a1, vi (fI s a2 8), vi 0] (uI (uR s a1 5 (fR s a2 5)) a1 6 (fI s a2 6)) (qi fun r6 s5 => (kl s5 a2 = 5) ∧ ((fR s5 a2 5 = 2 → (kl s5 a0 = 3) ∧ (kl s5 (fR s5 a0 0) = 4) ∧ (kl s5 a1 = 5) ∧ ((fI s5 a1 10 ≠ 0 → F 0 (uI s5 (fR s5 a0 0) 5 (fI s (fR s a0 0) 5))) ∧ (fI s5 a1 10 = 0 → F 1 (uI s5 (fR s5 a0 0) 5 (fI s (fR s a0 0) 5))))) ∧ (fR s5 a2 5 ≠ 2 → ((fI s5 a2 6 ≠ 0 → (kl s5 a0 = 3) ∧ (kl s5 (fR s5 a0 0) = 4) ∧ (kl s5 a1 = 5) ∧ ((fI s5 a1 10 ≠ 0 → F 0 (uI s5 (fR s5 a0 0) 5 (fI s (fR s a0 0) 5))) ∧ (fI s5 a1 10 = 0 → F 1 (uI s5 (fR s5 a0 0) 5 (fI s (fR s a0 0) 5))))) ∧ (fI s5 a2 6 = 0 → (kl s5 (fR s5 a2 5) = 5) ∧ (kl s5 a0 = 3) ∧ ck iv L h0 d 173 [vr a0, vi (fI s5 (fR s5 a2 5) 1), vi r6] s5 (qi fun r17 s16 => ((r17 = 0 → (kl s16 a0 = 3) ∧ (kl s16 (fR s16 a0 0) = 4) ∧ (kl s16 a1 = 5) ∧ ((fI s16 a1 10 ≠ 0 → F 0 (uI s16 (fR s16 a0 0) 5 (fI s (fR s a0 0) 5))) ∧ (fI s16 a1 10 = 0 → F 1 (uI s16 (fR s16 a0 0) 5 (fI s (fR s a0 0) 5))))) ∧ (r17 ≠ 0 → (kl s16 a0 = 3) ∧ (kl s16 (fR s16 a0 0) = 4) ∧ (kl s16 a1 = 5) ∧ ((fI s16 a1 10 ≠ 0 → F 0 (uI s16 (fR s16 a0 0) 5 (fI s (fR s a0 0) 5))) ∧ (fI s16 a1 10 = 0 → F 0 (uI s16 (fR s16 a0 0) 5 (fI s (fR s a0 0) 5))))))))))))) : ck iv L h0 (d + 1) 164 [vr a0, vr a1, vr a2] s (qi F) := by
  show wk iv L h0 (d + 1) 164 0 [lr a0, lr a1, lr a2] [] s (qi F)
  refine w_aload_n rfl rfl ?_
  obtain ⟨g1, H⟩ := H
  refine c_getr rfl rfl rfl g1 ?_
  obtain ⟨g2, H⟩ := H
  refine c_get rfl rfl rfl g2 ?_
  refine w_istore_n rfl rfl ?_
  refine w_aload_n rfl rfl ?_
  refine w_aload_n rfl rfl ?_
  obtain ⟨g3, H⟩ := H
  refine c_getr rfl rfl rfl g3 ?_
  obtain ⟨g4, H⟩ := H
  refine c_putr rfl rfl rfl rfl g4 ?_
  refine w_aload_n rfl rfl ?_
  refine w_aload_n rfl rfl ?_
  refine c_get rfl rfl rfl g3 ?_
  show wk iv L h0 (d + 1) 164 21 [lr a0, lr a1, lr a2, li (fI s (fR s a0 0) 5)] [vi (fI s a2 6), vr a1] (uR s a1 5 (fR s a2 5)) (qi F)
  refine c_put rfl rfl rfl rfl g4 ?_
  refine w_aload_n rfl rfl ?_
  refine w_aload_n rfl rfl ?_
  refine w_aload_n rfl rfl ?_
  refine c_get rfl rfl rfl g3 ?_
  show wk iv L h0 (d + 1) 164 30 [lr a0, lr a1, lr a2, li (fI s (fR s a0 0) 5)] [vi (fI s a2 8), vr a1, vr a0] (uI (uR s a1 5 (fR s a2 5)) a1 6 (fI s a2 6)) (qi F)
  refine w_iconst (n := 0) rfl rfl ?_
  refine c_virt (p := a0) (as := [vr a1, vi (fI s a2 8), vi 0]) (r := []) rfl rfl rfl rfl rfl rfl g1 (wc_mono H (Nat.le_refl _) ?_)
  rintro _ s5 ⟨r6, rfl, H⟩
  show wk iv L h0 (d + 1) 164 34 [lr a0, lr a1, lr a2, li (fI s (fR s a0 0) 5)] [vi r6] s5 (qi F)
  refine w_istore rfl rfl ?_
  refine w_aload_n rfl rfl ?_
  obtain ⟨g7, H⟩ := H
  refine c_getr rfl rfl rfl g7 ?_
  refine c_null rfl (fun h => ?_) (fun h => ?_)
  · replace H := H.1 h
    refine w_iconst (n := 0) rfl rfl ?_
    refine w_istore rfl rfl ?_
    refine w_aload_n rfl rfl ?_
    obtain ⟨g8, H⟩ := H
    refine c_getr rfl rfl rfl g8 ?_
    refine w_iload_n rfl rfl ?_
    obtain ⟨g9, H⟩ := H
    refine c_put rfl rfl rfl rfl g9 ?_
    refine w_aload_n rfl rfl ?_
    obtain ⟨g10, H⟩ := H
    refine c_get rfl rfl rfl g10 ?_
    show wk iv L h0 (d + 1) 164 85 [lr a0, lr a1, lr a2, li (fI s (fR s a0 0) 5), li r6, li 0] [vi (fI s5 a1 10)] (uI s5 (fR s5 a0 0) 5 (fI s (fR s a0 0) 5)) (qi F)
    refine w_if_ne rfl (fun h => ?_) (fun h => ?_)
    · replace H := H.1 h
      refine w_iconst (n := 0) rfl rfl ?_
      exact w_iretz rfl rfl (by decide) ⟨_, rfl, H⟩
    · replace H := H.2 h
      refine w_iload rfl rfl ?_
      refine w_if_ne rfl (fun h => absurd h (by decide)) (fun _ => ?_)
      refine w_iconst (n := 1) rfl rfl ?_
      refine w_goto rfl ?_
      exact w_iretz rfl rfl (by decide) ⟨_, rfl, H⟩
  · replace H := H.2 h
    refine w_aload_n rfl rfl ?_
    refine c_get rfl rfl rfl g7 ?_
    refine w_if_ne rfl (fun h => ?_) (fun h => ?_)
    · replace H := H.1 h
      refine w_iconst (n := 0) rfl rfl ?_
      refine w_istore rfl rfl ?_
      refine w_aload_n rfl rfl ?_
      obtain ⟨g11, H⟩ := H
      refine c_getr rfl rfl rfl g11 ?_
      refine w_iload_n rfl rfl ?_
      obtain ⟨g12, H⟩ := H
      refine c_put rfl rfl rfl rfl g12 ?_
      refine w_aload_n rfl rfl ?_
      obtain ⟨g13, H⟩ := H
      refine c_get rfl rfl rfl g13 ?_
      show wk iv L h0 (d + 1) 164 85 [lr a0, lr a1, lr a2, li (fI s (fR s a0 0) 5), li r6, li 0] [vi (fI s5 a1 10)] (uI s5 (fR s5 a0 0) 5 (fI s (fR s a0 0) 5)) (qi F)
      refine w_if_ne rfl (fun h => ?_) (fun h => ?_)
      · replace H := H.1 h
        refine w_iconst (n := 0) rfl rfl ?_
        exact w_iretz rfl rfl (by decide) ⟨_, rfl, H⟩
      · replace H := H.2 h
        refine w_iload rfl rfl ?_
        refine w_if_ne rfl (fun h => absurd h (by decide)) (fun _ => ?_)
        refine w_iconst (n := 1) rfl rfl ?_
        refine w_goto rfl ?_
        exact w_iretz rfl rfl (by decide) ⟨_, rfl, H⟩
    · replace H := H.2 h
      refine w_aload_n rfl rfl ?_
      refine w_aload_n rfl rfl ?_
      refine c_getr rfl rfl rfl g7 ?_
      obtain ⟨g14, H⟩ := H
      refine c_get rfl rfl rfl g14 ?_
      refine w_iload rfl rfl ?_
      obtain ⟨g15, H⟩ := H
      refine c_virt (p := a0) (as := [vi (fI s5 (fR s5 a2 5) 1), vi r6]) (r := []) rfl rfl rfl rfl rfl rfl g15 (wc_mono H (Nat.le_refl _) ?_)
      rintro _ s16 ⟨r17, rfl, H⟩
      show wk iv L h0 (d + 1) 164 63 [lr a0, lr a1, lr a2, li (fI s (fR s a0 0) 5), li r6] [vi r17] s16 (qi F)
      refine w_if_eq rfl (fun h => ?_) (fun h => ?_)
      · replace H := H.1 h
        refine w_iconst (n := 0) rfl rfl ?_
        refine w_istore rfl rfl ?_
        refine w_aload_n rfl rfl ?_
        obtain ⟨g18, H⟩ := H
        refine c_getr rfl rfl rfl g18 ?_
        refine w_iload_n rfl rfl ?_
        obtain ⟨g19, H⟩ := H
        refine c_put rfl rfl rfl rfl g19 ?_
        refine w_aload_n rfl rfl ?_
        obtain ⟨g20, H⟩ := H
        refine c_get rfl rfl rfl g20 ?_
        show wk iv L h0 (d + 1) 164 85 [lr a0, lr a1, lr a2, li (fI s (fR s a0 0) 5), li r6, li 0] [vi (fI s16 a1 10)] (uI s16 (fR s16 a0 0) 5 (fI s (fR s a0 0) 5)) (qi F)
        refine w_if_ne rfl (fun h => ?_) (fun h => ?_)
        · replace H := H.1 h
          refine w_iconst (n := 0) rfl rfl ?_
          exact w_iretz rfl rfl (by decide) ⟨_, rfl, H⟩
        · replace H := H.2 h
          refine w_iload rfl rfl ?_
          refine w_if_ne rfl (fun h => absurd h (by decide)) (fun _ => ?_)
          refine w_iconst (n := 1) rfl rfl ?_
          refine w_goto rfl ?_
          exact w_iretz rfl rfl (by decide) ⟨_, rfl, H⟩
      · replace H := H.2 h
        refine w_iconst (n := 1) rfl rfl ?_
        refine w_goto rfl ?_
        refine w_istore rfl rfl ?_
        refine w_aload_n rfl rfl ?_
        obtain ⟨g21, H⟩ := H
        refine c_getr rfl rfl rfl g21 ?_
        refine w_iload_n rfl rfl ?_
        obtain ⟨g22, H⟩ := H
        refine c_put rfl rfl rfl rfl g22 ?_
        refine w_aload_n rfl rfl ?_
        obtain ⟨g23, H⟩ := H
        refine c_get rfl rfl rfl g23 ?_
        show wk iv L h0 (d + 1) 164 85 [lr a0, lr a1, lr a2, li (fI s (fR s a0 0) 5), li r6, li 1] [vi (fI s16 a1 10)] (uI s16 (fR s16 a0 0) 5 (fI s (fR s a0 0) 5)) (qi F)
        refine w_if_ne rfl (fun h => ?_) (fun h => ?_)
        · replace H := H.1 h
          refine w_iconst (n := 0) rfl rfl ?_
          exact w_iretz rfl rfl (by decide) ⟨_, rfl, H⟩
        · replace H := H.2 h
          refine w_iload rfl rfl ?_
          refine w_if_ne rfl (fun _ => ?_) (fun h => absurd h (by decide))
          refine w_iconst (n := 0) rfl rfl ?_
          exact w_iretz rfl rfl (by decide) ⟨_, rfl, H⟩

/-- HoleDesk$Judge.ask(LHoleDesk$Node;II)I -/
theorem C165 {iv : List (Int × Int)} {L : Nat} {h0 : MH} {d : Nat} {s : SC} {a0 : Nat} {a1 : Nat} {a2 : Int} {a3 : Int} {F : Int → SC → Prop} (H : ((a3 ≤ 64 → (kl s a1 = 5) ∧ (-2147483648 ≤ a3 + 1 ∧ a3 + 1 ≤ 2147483647) ∧ (kl s a0 = 3) ∧ ck iv L h0 d 166 [vr a0, vr a1, vi a2, vi (a3 + 1)] (uI (uI s a1 8 a2) a1 10 0) (qi fun r5 s4 => (kl s4 a1 = 5) ∧ ((a2 = (-1) → ck iv L h0 d 189 [vr a1] (uI s4 a1 9 r5) (qi fun r8 s7 => F r8 s7)) ∧ (a2 ≠ (-1) → ((fI s4 a1 10 ≠ 0 → ck iv L h0 d 189 [vr a1] (uI s4 a1 9 r5) (qi fun r10 s9 => F r10 s9)) ∧ (fI s4 a1 10 = 0 → ((fI s4 a1 1 = 10 → ck iv L h0 d 189 [vr a1] (uI s4 a1 9 r5) (qi fun r12 s11 => F r12 s11)) ∧ (fI s4 a1 1 ≠ 10 → ((fI s4 a1 1 = 11 → ck iv L h0 d 189 [vr a1] (uI s4 a1 9 r5) (qi fun r14 s13 => F r14 s13)) ∧ (fI s4 a1 1 ≠ 11 → (kl s4 a0 = 3) ∧ (kl s4 (fR s4 a0 0) = 4) ∧ ck iv L h0 d 182 [vr (fR s4 a0 0), vi a2, vi (fI (uI s4 a1 9 r5) a1 9)] (uI s4 a1 9 r5) (qi fun r18 s17 => ((r18 ≠ 0 → (kl s17 a1 = 5) ∧ ck iv L h0 d 189 [vr a1] s17 (qi fun r21 s20 => F r21 s20)) ∧ (r18 = 0 → (kl s17 a1 = 5) ∧ ck iv L h0 d 189 [vr a1] (uI s17 a1 10 6) (qi fun r24 s23 => F r24 s23)))))))))))))) ∧ (64 < a3 → F 0 s))) : ck iv L h0 (d + 1) 165 [vr a0, vr a1, vi a2, vi a3] s (qi F) := by
  show wk iv L h0 (d + 1) 165 0 [lr a0, lr a1, li a2, li a3] [] s (qi F)
  refine w_iload_n rfl rfl ?_
  refine w_bipush (n := 64) rfl rfl rfl ?_
  refine w_icmp_le rfl (fun h => ?_) (fun h => ?_)
  · replace H := H.1 h
    refine w_aload_n rfl rfl ?_
    refine w_iload_n rfl rfl ?_
    obtain ⟨g1, H⟩ := H
    refine c_put rfl rfl rfl rfl g1 ?_
    refine w_aload_n rfl rfl ?_
    refine w_iconst (n := 0) rfl rfl ?_
    refine c_put rfl rfl rfl rfl g1 ?_
    refine w_aload_n rfl rfl ?_
    refine w_aload_n rfl rfl ?_
    refine w_aload_n rfl rfl ?_
    refine w_iload_n rfl rfl ?_
    refine w_iload_n rfl rfl ?_
    refine w_iconst (n := 1) rfl rfl ?_
    obtain ⟨g2, H⟩ := H
    refine w_iadd rfl g2 ?_
    obtain ⟨g3, H⟩ := H
    refine c_virt (p := a0) (as := [vr a1, vi a2, vi (a3 + 1)]) (r := [vr a1]) rfl rfl rfl rfl rfl rfl g3 (wc_mono H (Nat.le_refl _) ?_)
    rintro _ s4 ⟨r5, rfl, H⟩
    show wk iv L h0 (d + 1) 165 28 [lr a0, lr a1, li a2, li a3] [vi r5, vr a1] s4 (qi F)
    obtain ⟨g6, H⟩ := H
    refine c_put rfl rfl rfl rfl g6 ?_
    refine w_iload_n rfl rfl ?_
    refine w_iconst (n := (-1)) rfl rfl ?_
    refine w_icmp_eq rfl (fun h => ?_) (fun h => ?_)
    · replace H := H.1 h
      refine w_iconst (n := 0) rfl rfl ?_
      refine w_istore rfl rfl ?_
      refine w_iload rfl rfl ?_
      refine w_if_eq rfl (fun _ => ?_) (fun h => absurd h (by decide))
      refine w_aload_n rfl rfl ?_
      refine c_virt (p := a1) (as := []) (r := []) rfl rfl rfl rfl rfl rfl g6 (wc_mono H (Nat.le_refl _) ?_)
      rintro _ s7 ⟨r8, rfl, H⟩
      show wk iv L h0 (d + 1) 165 98 [lr a0, lr a1, li a2, li a3, li 0] [vi r8] s7 (qi F)
      exact w_iret rfl rfl ⟨_, rfl, H⟩
    · replace H := H.2 h
      refine w_aload_n rfl rfl ?_
      refine c_get rfl rfl rfl g6 ?_
      show wk iv L h0 (d + 1) 165 40 [lr a0, lr a1, li a2, li a3] [vi (fI s4 a1 10)] (uI s4 a1 9 r5) (qi F)
      refine w_if_ne rfl (fun h => ?_) (fun h => ?_)
      · replace H := H.1 h
        refine w_iconst (n := 0) rfl rfl ?_
        refine w_istore rfl rfl ?_
        refine w_iload rfl rfl ?_
        refine w_if_eq rfl (fun _ => ?_) (fun h => absurd h (by decide))
        refine w_aload_n rfl rfl ?_
        refine c_virt (p := a1) (as := []) (r := []) rfl rfl rfl rfl rfl rfl g6 (wc_mono H (Nat.le_refl _) ?_)
        rintro _ s9 ⟨r10, rfl, H⟩
        show wk iv L h0 (d + 1) 165 98 [lr a0, lr a1, li a2, li a3, li 0] [vi r10] s9 (qi F)
        exact w_iret rfl rfl ⟨_, rfl, H⟩
      · replace H := H.2 h
        refine w_aload_n rfl rfl ?_
        refine c_get rfl rfl rfl g6 ?_
        show wk iv L h0 (d + 1) 165 47 [lr a0, lr a1, li a2, li a3] [vi (fI s4 a1 1)] (uI s4 a1 9 r5) (qi F)
        refine w_bipush (n := 10) rfl rfl rfl ?_
        refine w_icmp_eq rfl (fun h => ?_) (fun h => ?_)
        · replace H := H.1 h
          refine w_iconst (n := 0) rfl rfl ?_
          refine w_istore rfl rfl ?_
          refine w_iload rfl rfl ?_
          refine w_if_eq rfl (fun _ => ?_) (fun h => absurd h (by decide))
          refine w_aload_n rfl rfl ?_
          refine c_virt (p := a1) (as := []) (r := []) rfl rfl rfl rfl rfl rfl g6 (wc_mono H (Nat.le_refl _) ?_)
          rintro _ s11 ⟨r12, rfl, H⟩
          show wk iv L h0 (d + 1) 165 98 [lr a0, lr a1, li a2, li a3, li 0] [vi r12] s11 (qi F)
          exact w_iret rfl rfl ⟨_, rfl, H⟩
        · replace H := H.2 h
          refine w_aload_n rfl rfl ?_
          refine c_get rfl rfl rfl g6 ?_
          show wk iv L h0 (d + 1) 165 56 [lr a0, lr a1, li a2, li a3] [vi (fI s4 a1 1)] (uI s4 a1 9 r5) (qi F)
          refine w_bipush (n := 11) rfl rfl rfl ?_
          refine w_icmp_eq rfl (fun h => ?_) (fun h => ?_)
          · replace H := H.1 h
            refine w_iconst (n := 0) rfl rfl ?_
            refine w_istore rfl rfl ?_
            refine w_iload rfl rfl ?_
            refine w_if_eq rfl (fun _ => ?_) (fun h => absurd h (by decide))
            refine w_aload_n rfl rfl ?_
            refine c_virt (p := a1) (as := []) (r := []) rfl rfl rfl rfl rfl rfl g6 (wc_mono H (Nat.le_refl _) ?_)
            rintro _ s13 ⟨r14, rfl, H⟩
            show wk iv L h0 (d + 1) 165 98 [lr a0, lr a1, li a2, li a3, li 0] [vi r14] s13 (qi F)
            exact w_iret rfl rfl ⟨_, rfl, H⟩
          · replace H := H.2 h
            refine w_iconst (n := 1) rfl rfl ?_
            refine w_goto rfl ?_
            refine w_istore rfl rfl ?_
            refine w_iload rfl rfl ?_
            refine w_if_eq rfl (fun h => absurd h (by decide)) (fun _ => ?_)
            refine w_aload_n rfl rfl ?_
            obtain ⟨g15, H⟩ := H
            refine c_getr rfl rfl rfl g15 ?_
            show wk iv L h0 (d + 1) 165 77 [lr a0, lr a1, li a2, li a3, li 1] [vr (fR s4 a0 0)] (uI s4 a1 9 r5) (qi F)
            refine w_iload_n rfl rfl ?_
            refine w_aload_n rfl rfl ?_
            refine c_get rfl rfl rfl g6 ?_
            show wk iv L h0 (d + 1) 165 82 [lr a0, lr a1, li a2, li a3, li 1] [vi (fI (uI s4 a1 9 r5) a1 9), vi a2, vr (fR s4 a0 0)] (uI s4 a1 9 r5) (qi F)
            obtain ⟨g16, H⟩ := H
            refine c_virt (p := (fR s4 a0 0)) (as := [vi a2, vi (fI (uI s4 a1 9 r5) a1 9)]) (r := []) rfl rfl rfl rfl rfl rfl g16 (wc_mono H (Nat.le_refl _) ?_)
            rintro _ s17 ⟨r18, rfl, H⟩
            show wk iv L h0 (d + 1) 165 85 [lr a0, lr a1, li a2, li a3, li 1] [vi r18] s17 (qi F)
            refine w_if_ne rfl (fun h => ?_) (fun h => ?_)
            · replace H := H.1 h
              refine w_aload_n rfl rfl ?_
              obtain ⟨g19, H⟩ := H
              refine c_virt (p := a1) (as := []) (r := []) rfl rfl rfl rfl rfl rfl g19 (wc_mono H (Nat.le_refl _) ?_)
              rintro _ s20 ⟨r21, rfl, H⟩
              show wk iv L h0 (d + 1) 165 98 [lr a0, lr a1, li a2, li a3, li 1] [vi r21] s20 (qi F)
              exact w_iret rfl rfl ⟨_, rfl, H⟩
            · replace H := H.2 h
              refine w_aload_n rfl rfl ?_
              refine w_bipush (n := 6) rfl rfl rfl ?_
              obtain ⟨g22, H⟩ := H
              refine c_put rfl rfl rfl rfl g22 ?_
              refine w_aload_n rfl rfl ?_
              refine c_virt (p := a1) (as := []) (r := []) rfl rfl rfl rfl rfl rfl g22 (wc_mono H (Nat.le_refl _) ?_)
              rintro _ s23 ⟨r24, rfl, H⟩
              show wk iv L h0 (d + 1) 165 98 [lr a0, lr a1, li a2, li a3, li 1] [vi r24] s23 (qi F)
              exact w_iret rfl rfl ⟨_, rfl, H⟩
  · replace H := H.2 h
    refine w_iconst (n := 0) rfl rfl ?_
    exact w_iret rfl rfl ⟨_, rfl, H⟩

/-- HoleDesk$Judge.makes(LHoleDesk$Node;II)I -/
theorem C166 {iv : List (Int × Int)} {L : Nat} {h0 : MH} {d : Nat} {s : SC} {a0 : Nat} {a1 : Nat} {a2 : Int} {a3 : Int} {F : Int → SC → Prop} (H : (kl s a1 = 5) ∧ ((fI s a1 1 = 1 → F 1 s) ∧ (fI s a1 1 = 2 → F 2 s) ∧ (fI s a1 1 = 3 → (kl s a0 = 3) ∧ ck iv L h0 d 167 [vr a0, vr a1] s (qi fun r4 s3 => F r4 s3)) ∧ (fI s a1 1 = 4 ∨ fI s a1 1 = 5 ∨ fI s a1 1 = 6 ∨ fI s a1 1 = 7 → (kl s (fR s a1 3) = 103) ∧ ((0 : Int) ≤ 0 ∧ 0 < le s (fR s a1 3)) ∧ (kl s a0 = 3) ∧ ck iv L h0 d 165 [vr a0, vr (aR s (fR s a1 3) 0), vi 1, vi a3] s (qi fun r9 s8 => (kl s8 a1 = 5) ∧ (kl s8 (fR s8 a1 3) = 103) ∧ ((0 : Int) ≤ 1 ∧ 1 < le s8 (fR s8 a1 3)) ∧ (kl s8 a0 = 3) ∧ ck iv L h0 d 165 [vr a0, vr (aR s8 (fR s8 a1 3) 1), vi 1, vi a3] s8 (qi fun r15 s14 => (kl s14 a1 = 5) ∧ ((fI s14 a1 1 ≠ 7 → F 1 s14) ∧ (fI s14 a1 1 = 7 → F 2 s14))))) ∧ (fI s a1 1 = 8 → (kl s a0 = 3) ∧ ck iv L h0 d 168 [vr a0, vr a1, vi a2, vi a3] s (qi fun r19 s18 => F r19 s18)) ∧ (fI s a1 1 = 9 → (kl s a0 = 3) ∧ ck iv L h0 d 169 [vr a0, vr a1, vi a3] s (qi fun r22 s21 => F r22 s21)) ∧ (fI s a1 1 = 10 → (kl s (fR s a1 3) = 103) ∧ ((0 : Int) ≤ 0 ∧ 0 < le s (fR s a1 3)) ∧ (kl s a0 = 3) ∧ ck iv L h0 d 165 [vr a0, vr (aR s (fR s a1 3) 0), vi (-1), vi a3] s (qi fun r27 s26 => (kl s26 a1 = 5) ∧ (kl s26 (fR s26 a1 3) = 103) ∧ ((0 : Int) ≤ 1 ∧ 1 < le s26 (fR s26 a1 3)) ∧ (kl s26 a0 = 3) ∧ ck iv L h0 d 165 [vr a0, vr (aR s26 (fR s26 a1 3) 1), vi a2, vi a3] s26 (qi fun r33 s32 => F r33 s32))) ∧ (fI s a1 1 = 11 → (kl s a0 = 3) ∧ ck iv L h0 d 170 [vr a0, vr a1, vi a2, vi a3] s (qi fun r36 s35 => F r36 s35)) ∧ (fI s a1 1 = 12 → (kl s a0 = 3) ∧ ck iv L h0 d 171 [vr a0, vr a1, vi a2, vi a3] s (qi fun r39 s38 => F r39 s38)) ∧ (fI s a1 1 = 13 ∨ fI s a1 1 = 14 → (kl s a0 = 3) ∧ ck iv L h0 d 172 [vr a0, vr a1, vi a3] s (qi fun r42 s41 => F r42 s41)) ∧ (fI s a1 1 = 15 → (kl s (fR s a1 3) = 103) ∧ ((0 : Int) ≤ 0 ∧ 0 < le s (fR s a1 3)) ∧ (kl s a0 = 3) ∧ ck iv L h0 d 165 [vr a0, vr (aR s (fR s a1 3) 0), vi (fI s a1 2), vi a3] s (qi fun r47 s46 => (kl s46 a1 = 5) ∧ F (fI s46 a1 2) s46)) ∧ (fI s a1 1 < 1 ∨ 15 < fI s a1 1 → F 0 s))) : ck iv L h0 (d + 1) 166 [vr a0, vr a1, vi a2, vi a3] s (qi F) := by
  show wk iv L h0 (d + 1) 166 0 [lr a0, lr a1, li a2, li a3] [] s (qi F)
  refine w_aload_n rfl rfl ?_
  obtain ⟨g1, H⟩ := H
  refine c_get rfl rfl rfl g1 ?_
  have J80 : (fI s a1 1 = 1) → wk iv L h0 (d + 1) 166 80 [lr a0, lr a1, li a2, li a3] [] s (qi F) := fun h => by
    replace H := H.1 h
    refine w_iconst (n := 1) rfl rfl ?_
    exact w_iret rfl rfl ⟨_, rfl, H⟩
  have J82 : (fI s a1 1 = 2) → wk iv L h0 (d + 1) 166 82 [lr a0, lr a1, li a2, li a3] [] s (qi F) := fun h => by
    replace H := H.2.1 h
    refine w_iconst (n := 2) rfl rfl ?_
    exact w_iret rfl rfl ⟨_, rfl, H⟩
  have J84 : (fI s a1 1 = 3) → wk iv L h0 (d + 1) 166 84 [lr a0, lr a1, li a2, li a3] [] s (qi F) := fun h => by
    replace H := H.2.2.1 h
    refine w_aload_n rfl rfl ?_
    refine w_aload_n rfl rfl ?_
    obtain ⟨g2, H⟩ := H
    refine c_virt (p := a0) (as := [vr a1]) (r := []) rfl rfl rfl rfl rfl rfl g2 (wc_mono H (Nat.le_refl _) ?_)
    rintro _ s3 ⟨r4, rfl, H⟩
    show wk iv L h0 (d + 1) 166 89 [lr a0, lr a1, li a2, li a3] [vi r4] s3 (qi F)
    exact w_iret rfl rfl ⟨_, rfl, H⟩
  have J90 : (fI s a1 1 = 4 ∨ fI s a1 1 = 5 ∨ fI s a1 1 = 6 ∨ fI s a1 1 = 7) → wk iv L h0 (d + 1) 166 90 [lr a0, lr a1, li a2, li a3] [] s (qi F) := fun h => by
    replace H := H.2.2.2.1 h
    refine w_aload_n rfl rfl ?_
    refine w_aload_n rfl rfl ?_
    refine c_getr rfl rfl rfl g1 ?_
    refine w_iconst (n := 0) rfl rfl ?_
    obtain ⟨g5, H⟩ := H
    obtain ⟨g6, H⟩ := H
    refine c_aald (t := 3) rfl ⟨g5, by decide, by decide⟩ g6 ?_
    refine w_iconst (n := 1) rfl rfl ?_
    refine w_iload_n rfl rfl ?_
    obtain ⟨g7, H⟩ := H
    refine c_virt (p := a0) (as := [vr (aR s (fR s a1 3) 0), vi 1, vi a3]) (r := []) rfl rfl rfl rfl rfl rfl g7 (wc_mono H (Nat.le_refl _) ?_)
    rintro _ s8 ⟨r9, rfl, H⟩
    show wk iv L h0 (d + 1) 166 102 [lr a0, lr a1, li a2, li a3] [vi r9] s8 (qi F)
    refine w_pop rfl rfl ?_
    refine w_aload_n rfl rfl ?_
    refine w_aload_n rfl rfl ?_
    obtain ⟨g10, H⟩ := H
    refine c_getr rfl rfl rfl g10 ?_
    refine w_iconst (n := 1) rfl rfl ?_
    obtain ⟨g11, H⟩ := H
    obtain ⟨g12, H⟩ := H
    refine c_aald (t := 3) rfl ⟨g11, by decide, by decide⟩ g12 ?_
    refine w_iconst (n := 1) rfl rfl ?_
    refine w_iload_n rfl rfl ?_
    obtain ⟨g13, H⟩ := H
    refine c_virt (p := a0) (as := [vr (aR s8 (fR s8 a1 3) 1), vi 1, vi a3]) (r := []) rfl rfl rfl rfl rfl rfl g13 (wc_mono H (Nat.le_refl _) ?_)
    rintro _ s14 ⟨r15, rfl, H⟩
    show wk iv L h0 (d + 1) 166 115 [lr a0, lr a1, li a2, li a3] [vi r15] s14 (qi F)
    refine w_pop rfl rfl ?_
    refine w_aload_n rfl rfl ?_
    obtain ⟨g16, H⟩ := H
    refine c_get rfl rfl rfl g16 ?_
    refine w_bipush (n := 7) rfl rfl rfl ?_
    refine w_icmp_ne rfl (fun h => ?_) (fun h => ?_)
    · replace H := H.1 h
      refine w_iconst (n := 1) rfl rfl ?_
      exact w_iret rfl rfl ⟨_, rfl, H⟩
    · replace H := H.2 h
      refine w_iconst (n := 2) rfl rfl ?_
      refine w_goto rfl ?_
      exact w_iret rfl rfl ⟨_, rfl, H⟩
  have J131 : (fI s a1 1 = 8) → wk iv L h0 (d + 1) 166 131 [lr a0, lr a1, li a2, li a3] [] s (qi F) := fun h => by
    replace H := H.2.2.2.2.1 h
    refine w_aload_n rfl rfl ?_
    refine w_aload_n rfl rfl ?_
    refine w_iload_n rfl rfl ?_
    refine w_iload_n rfl rfl ?_
    obtain ⟨g17, H⟩ := H
    refine c_virt (p := a0) (as := [vr a1, vi a2, vi a3]) (r := []) rfl rfl rfl rfl rfl rfl g17 (wc_mono H (Nat.le_refl _) ?_)
    rintro _ s18 ⟨r19, rfl, H⟩
    show wk iv L h0 (d + 1) 166 138 [lr a0, lr a1, li a2, li a3] [vi r19] s18 (qi F)
    exact w_iret rfl rfl ⟨_, rfl, H⟩
  have J139 : (fI s a1 1 = 9) → wk iv L h0 (d + 1) 166 139 [lr a0, lr a1, li a2, li a3] [] s (qi F) := fun h => by
    replace H := H.2.2.2.2.2.1 h
    refine w_aload_n rfl rfl ?_
    refine w_aload_n rfl rfl ?_
    refine w_iload_n rfl rfl ?_
    obtain ⟨g20, H⟩ := H
    refine c_virt (p := a0) (as := [vr a1, vi a3]) (r := []) rfl rfl rfl rfl rfl rfl g20 (wc_mono H (Nat.le_refl _) ?_)
    rintro _ s21 ⟨r22, rfl, H⟩
    show wk iv L h0 (d + 1) 166 145 [lr a0, lr a1, li a2, li a3] [vi r22] s21 (qi F)
    exact w_iret rfl rfl ⟨_, rfl, H⟩
  have J146 : (fI s a1 1 = 10) → wk iv L h0 (d + 1) 166 146 [lr a0, lr a1, li a2, li a3] [] s (qi F) := fun h => by
    replace H := H.2.2.2.2.2.2.1 h
    refine w_aload_n rfl rfl ?_
    refine w_aload_n rfl rfl ?_
    refine c_getr rfl rfl rfl g1 ?_
    refine w_iconst (n := 0) rfl rfl ?_
    obtain ⟨g23, H⟩ := H
    obtain ⟨g24, H⟩ := H
    refine c_aald (t := 3) rfl ⟨g23, by decide, by decide⟩ g24 ?_
    refine w_iconst (n := (-1)) rfl rfl ?_
    refine w_iload_n rfl rfl ?_
    obtain ⟨g25, H⟩ := H
    refine c_virt (p := a0) (as := [vr (aR s (fR s a1 3) 0), vi (-1), vi a3]) (r := []) rfl rfl rfl rfl rfl rfl g25 (wc_mono H (Nat.le_refl _) ?_)
    rintro _ s26 ⟨r27, rfl, H⟩
    show wk iv L h0 (d + 1) 166 158 [lr a0, lr a1, li a2, li a3] [vi r27] s26 (qi F)
    refine w_pop rfl rfl ?_
    refine w_aload_n rfl rfl ?_
    refine w_aload_n rfl rfl ?_
    obtain ⟨g28, H⟩ := H
    refine c_getr rfl rfl rfl g28 ?_
    refine w_iconst (n := 1) rfl rfl ?_
    obtain ⟨g29, H⟩ := H
    obtain ⟨g30, H⟩ := H
    refine c_aald (t := 3) rfl ⟨g29, by decide, by decide⟩ g30 ?_
    refine w_iload_n rfl rfl ?_
    refine w_iload_n rfl rfl ?_
    obtain ⟨g31, H⟩ := H
    refine c_virt (p := a0) (as := [vr (aR s26 (fR s26 a1 3) 1), vi a2, vi a3]) (r := []) rfl rfl rfl rfl rfl rfl g31 (wc_mono H (Nat.le_refl _) ?_)
    rintro _ s32 ⟨r33, rfl, H⟩
    show wk iv L h0 (d + 1) 166 171 [lr a0, lr a1, li a2, li a3] [vi r33] s32 (qi F)
    exact w_iret rfl rfl ⟨_, rfl, H⟩
  have J172 : (fI s a1 1 = 11) → wk iv L h0 (d + 1) 166 172 [lr a0, lr a1, li a2, li a3] [] s (qi F) := fun h => by
    replace H := H.2.2.2.2.2.2.2.1 h
    refine w_aload_n rfl rfl ?_
    refine w_aload_n rfl rfl ?_
    refine w_iload_n rfl rfl ?_
    refine w_iload_n rfl rfl ?_
    obtain ⟨g34, H⟩ := H
    refine c_virt (p := a0) (as := [vr a1, vi a2, vi a3]) (r := []) rfl rfl rfl rfl rfl rfl g34 (wc_mono H (Nat.le_refl _) ?_)
    rintro _ s35 ⟨r36, rfl, H⟩
    show wk iv L h0 (d + 1) 166 179 [lr a0, lr a1, li a2, li a3] [vi r36] s35 (qi F)
    exact w_iret rfl rfl ⟨_, rfl, H⟩
  have J180 : (fI s a1 1 = 12) → wk iv L h0 (d + 1) 166 180 [lr a0, lr a1, li a2, li a3] [] s (qi F) := fun h => by
    replace H := H.2.2.2.2.2.2.2.2.1 h
    refine w_aload_n rfl rfl ?_
    refine w_aload_n rfl rfl ?_
    refine w_iload_n rfl rfl ?_
    refine w_iload_n rfl rfl ?_
    obtain ⟨g37, H⟩ := H
    refine c_virt (p := a0) (as := [vr a1, vi a2, vi a3]) (r := []) rfl rfl rfl rfl rfl rfl g37 (wc_mono H (Nat.le_refl _) ?_)
    rintro _ s38 ⟨r39, rfl, H⟩
    show wk iv L h0 (d + 1) 166 187 [lr a0, lr a1, li a2, li a3] [vi r39] s38 (qi F)
    exact w_iret rfl rfl ⟨_, rfl, H⟩
  have J188 : (fI s a1 1 = 13 ∨ fI s a1 1 = 14) → wk iv L h0 (d + 1) 166 188 [lr a0, lr a1, li a2, li a3] [] s (qi F) := fun h => by
    replace H := H.2.2.2.2.2.2.2.2.2.1 h
    refine w_aload_n rfl rfl ?_
    refine w_aload_n rfl rfl ?_
    refine w_iload_n rfl rfl ?_
    obtain ⟨g40, H⟩ := H
    refine c_virt (p := a0) (as := [vr a1, vi a3]) (r := []) rfl rfl rfl rfl rfl rfl g40 (wc_mono H (Nat.le_refl _) ?_)
    rintro _ s41 ⟨r42, rfl, H⟩
    show wk iv L h0 (d + 1) 166 194 [lr a0, lr a1, li a2, li a3] [vi r42] s41 (qi F)
    exact w_iret rfl rfl ⟨_, rfl, H⟩
  have J195 : (fI s a1 1 = 15) → wk iv L h0 (d + 1) 166 195 [lr a0, lr a1, li a2, li a3] [] s (qi F) := fun h => by
    replace H := H.2.2.2.2.2.2.2.2.2.2.1 h
    refine w_aload_n rfl rfl ?_
    refine w_aload_n rfl rfl ?_
    refine c_getr rfl rfl rfl g1 ?_
    refine w_iconst (n := 0) rfl rfl ?_
    obtain ⟨g43, H⟩ := H
    obtain ⟨g44, H⟩ := H
    refine c_aald (t := 3) rfl ⟨g43, by decide, by decide⟩ g44 ?_
    refine w_aload_n rfl rfl ?_
    refine c_get rfl rfl rfl g1 ?_
    refine w_iload_n rfl rfl ?_
    obtain ⟨g45, H⟩ := H
    refine c_virt (p := a0) (as := [vr (aR s (fR s a1 3) 0), vi (fI s a1 2), vi a3]) (r := []) rfl rfl rfl rfl rfl rfl g45 (wc_mono H (Nat.le_refl _) ?_)
    rintro _ s46 ⟨r47, rfl, H⟩
    show wk iv L h0 (d + 1) 166 210 [lr a0, lr a1, li a2, li a3] [vi r47] s46 (qi F)
    refine w_pop rfl rfl ?_
    refine w_aload_n rfl rfl ?_
    obtain ⟨g48, H⟩ := H
    refine c_get rfl rfl rfl g48 ?_
    exact w_iret rfl rfl ⟨_, rfl, H⟩
  have J216 : (fI s a1 1 < 1 ∨ 15 < fI s a1 1) → wk iv L h0 (d + 1) 166 216 [lr a0, lr a1, li a2, li a3] [] s (qi F) := fun h => by
    replace H := H.2.2.2.2.2.2.2.2.2.2.2 h
    refine w_iconst (n := 0) rfl rfl ?_
    exact w_iret rfl rfl ⟨_, rfl, H⟩
  refine w_tsw (td := 216) (ts := [80, 82, 84, 90, 90, 90, 90, 131, 139, 146, 172, 180, 188, 188, 195]) rfl rfl rfl rfl rfl rfl (fun h => J216 (by omega)) ?_
  exact swA_c (fun h => J80 (by omega)) (swA_c (fun h => J82 (by omega)) (swA_c (fun h => J84 (by omega)) (swA_c (fun h => J90 (by omega)) (swA_c (fun h => J90 (by omega)) (swA_c (fun h => J90 (by omega)) (swA_c (fun h => J90 (by omega)) (swA_c (fun h => J131 (by omega)) (swA_c (fun h => J139 (by omega)) (swA_c (fun h => J146 (by omega)) (swA_c (fun h => J172 (by omega)) (swA_c (fun h => J180 (by omega)) (swA_c (fun h => J188 (by omega)) (swA_c (fun h => J188 (by omega)) (swA_c (fun h => J195 (by omega)) (swA_n)))))))))))))))

/-- HoleDesk$Judge.nameMakes(LHoleDesk$Node;)I -/
theorem C167 {iv : List (Int × Int)} {L : Nat} {h0 : MH} {d : Nat} {s : SC} {a0 : Nat} {a1 : Nat} {F : Int → SC → Prop} (H : (kl s a1 = 5) ∧ ck iv L h0 d 56 [vr a1, vi (fI s a1 4), vr 2, vi (-9)] s (qa fun r3 s2 => ((r3 ≠ 2 → (kl s2 r3 = 5) ∧ ((fI s2 r3 1 ≠ 8 → (kl s2 (fR s2 r3 3) = 103) ∧ ((0 : Int) ≤ 0 ∧ 0 < le s2 (fR s2 r3 3)) ∧ (kl s2 (aR s2 (fR s2 r3 3) 0) = 5) ∧ ck iv L h0 d 189 [vr (aR s2 (fR s2 r3 3) 0)] s2 (qi fun r9 s8 => F r9 s8)) ∧ (fI s2 r3 1 = 8 → F (fI s2 r3 2) s2))) ∧ (r3 = 2 → (kl s2 a1 = 5) ∧ F 0 (uI s2 a1 10 1))))) : ck iv L h0 (d + 1) 167 [vr a0, vr a1] s (qi F) := by
  show wk iv L h0 (d + 1) 167 0 [lr a0, lr a1] [] s (qi F)
  refine w_aload_n rfl rfl ?_
  refine w_aload_n rfl rfl ?_
  obtain ⟨g1, H⟩ := H
  refine c_get rfl rfl rfl g1 ?_
  refine w_null rfl ?_
  refine w_bipush (n := (-9)) rfl rfl rfl ?_
  refine w_static (as := [vr a1, vi (fI s a1 4), vr 2, vi (-9)]) (r := []) rfl rfl rfl rfl rfl (wc_mono H (Nat.le_refl _) ?_)
  rintro _ s2 ⟨r3, rfl, H⟩
  show wk iv L h0 (d + 1) 167 11 [lr a0, lr a1] [vr r3] s2 (qi F)
  refine w_astore_n rfl rfl ?_
  refine w_aload_n rfl rfl ?_
  refine c_nonnull rfl (fun h => ?_) (fun h => ?_)
  · replace H := H.1 h
    refine w_aload_n rfl rfl ?_
    obtain ⟨g4, H⟩ := H
    refine c_get rfl rfl rfl g4 ?_
    refine w_bipush (n := 8) rfl rfl rfl ?_
    refine w_icmp_ne rfl (fun h => ?_) (fun h => ?_)
    · replace H := H.1 h
      refine w_aload_n rfl rfl ?_
      refine c_getr rfl rfl rfl g4 ?_
      refine w_iconst (n := 0) rfl rfl ?_
      obtain ⟨g5, H⟩ := H
      obtain ⟨g6, H⟩ := H
      refine c_aald (t := 3) rfl ⟨g5, by decide, by decide⟩ g6 ?_
      obtain ⟨g7, H⟩ := H
      refine c_virt (p := (aR s2 (fR s2 r3 3) 0)) (as := []) (r := []) rfl rfl rfl rfl rfl rfl g7 (wc_mono H (Nat.le_refl _) ?_)
      rintro _ s8 ⟨r9, rfl, H⟩
      show wk iv L h0 (d + 1) 167 48 [lr a0, lr a1, lr r3] [vi r9] s8 (qi F)
      exact w_iret rfl rfl ⟨_, rfl, H⟩
    · replace H := H.2 h
      refine w_aload_n rfl rfl ?_
      refine c_get rfl rfl rfl g4 ?_
      refine w_goto rfl ?_
      exact w_iret rfl rfl ⟨_, rfl, H⟩
  · replace H := H.2 h
    refine w_aload_n rfl rfl ?_
    refine w_iconst (n := 1) rfl rfl ?_
    obtain ⟨g10, H⟩ := H
    refine c_put rfl rfl rfl rfl g10 ?_
    refine w_iconst (n := 0) rfl rfl ?_
    exact w_iret rfl rfl ⟨_, rfl, H⟩

/-- HoleDesk$Judge.defMakes(LHoleDesk$Node;II)I -/
theorem C168 {iv : List (Int × Int)} {L : Nat} {h0 : MH} {d : Nat} {s : SC} {a0 : Nat} {a1 : Nat} {a2 : Int} {a3 : Int} {F : Int → SC → Prop} (H : ((a2 ≠ 0 → ((a2 = (-1) → (kl s a0 = 3) ∧ (kl s a1 = 5) ∧ (kl s (fR s a1 3) = 103) ∧ ((0 : Int) ≤ 0 ∧ 0 < le s (fR s a1 3)) ∧ ck iv L h0 d 165 [vr a0, vr (aR s (fR s a1 3) 0), vi (-1), vi a3] s (qi fun r6 s5 => (kl s5 (fR s a0 0) = 4) ∧ ck iv L h0 d 181 [vr (fR s a0 0), vi 3, vi (fI s a1 2), vi r6] s5 (qi fun r9 s8 => F r9 s8))) ∧ (a2 ≠ (-1) → (kl s a0 = 3) ∧ (kl s (fR s a0 0) = 4) ∧ (kl s (fR s (fR s a0 0) 0) = 100) ∧ (0 ≤ a2 ∧ a2 < le s (fR s (fR s a0 0) 0)) ∧ ((aI s (fR s (fR s a0 0) 0) a2 ≠ 3 → (kl s a1 = 5) ∧ (kl s (fR s a1 3) = 103) ∧ ((0 : Int) ≤ 0 ∧ 0 < le s (fR s a1 3)) ∧ ck iv L h0 d 165 [vr a0, vr (aR s (fR s a1 3) 0), vi (-1), vi a3] s (qi fun r18 s17 => (kl s17 (fR s a0 0) = 4) ∧ ck iv L h0 d 181 [vr (fR s a0 0), vi 3, vi (fI s a1 2), vi r18] s17 (qi fun r21 s20 => F r21 s20))) ∧ (aI s (fR s (fR s a0 0) 0) a2 = 3 → (kl s (fR s (fR s a0 0) 2) = 100) ∧ (0 ≤ a2 ∧ a2 < le s (fR s (fR s a0 0) 2)) ∧ (kl s a1 = 5) ∧ (kl s (fR s (fR s a0 0) 1) = 100) ∧ (0 ≤ a2 ∧ a2 < le s (fR s (fR s a0 0) 1)) ∧ ck iv L h0 d 182 [vr (fR s a0 0), vi (fI s a1 2), vi (aI s (fR s (fR s a0 0) 1) a2)] s (qi fun r28 s27 => ((r28 ≠ 0 → (kl s27 a0 = 3) ∧ (kl s27 a1 = 5) ∧ (kl s27 (fR s27 a1 3) = 103) ∧ ((0 : Int) ≤ 0 ∧ 0 < le s27 (fR s27 a1 3)) ∧ ck iv L h0 d 165 [vr a0, vr (aR s27 (fR s27 a1 3) 0), vi (aI s (fR s (fR s a0 0) 2) a2), vi a3] s27 (qi fun r34 s33 => (kl s33 (fR s27 a0 0) = 4) ∧ ck iv L h0 d 181 [vr (fR s27 a0 0), vi 3, vi (fI s27 a1 2), vi r34] s33 (qi fun r37 s36 => F r37 s36))) ∧ (r28 = 0 → (kl s27 a1 = 5) ∧ (kl s27 a0 = 3) ∧ (kl s27 (fR s27 a1 3) = 103) ∧ ((0 : Int) ≤ 0 ∧ 0 < le s27 (fR s27 a1 3)) ∧ ck iv L h0 d 165 [vr a0, vr (aR s27 (fR s27 a1 3) 0), vi (aI s (fR s (fR s a0 0) 2) a2), vi a3] (uI s27 a1 10 4) (qi fun r43 s42 => (kl s42 (fR s27 a0 0) = 4) ∧ ck iv L h0 d 181 [vr (fR s27 a0 0), vi 3, vi (fI s27 a1 2), vi r43] s42 (qi fun r46 s45 => F r46 s45)))))))))) ∧ (a2 = 0 → (kl s a0 = 3) ∧ (kl s a1 = 5) ∧ (kl s (fR s a1 3) = 103) ∧ ((0 : Int) ≤ 0 ∧ 0 < le s (fR s a1 3)) ∧ ck iv L h0 d 165 [vr a0, vr (aR s (fR s a1 3) 0), vi 0, vi a3] s (qi fun r52 s51 => (kl s51 (fR s a0 0) = 4) ∧ ck iv L h0 d 181 [vr (fR s a0 0), vi 3, vi (fI s a1 2), vi r52] s51 (qi fun r55 s54 => F r55 s54))))) : ck iv L h0 (d + 1) 168 [vr a0, vr a1, vi a2, vi a3] s (qi F) := by
  show wk iv L h0 (d + 1) 168 0 [lr a0, lr a1, li a2, li a3] [] s (qi F)
  refine w_iconst (n := (-1)) rfl rfl ?_
  refine w_istore rfl rfl ?_
  refine w_iload_n rfl rfl ?_
  refine w_if_ne rfl (fun h => ?_) (fun h => ?_)
  · replace H := H.1 h
    refine w_iload_n rfl rfl ?_
    refine w_iconst (n := (-1)) rfl rfl ?_
    refine w_icmp_eq rfl (fun h => ?_) (fun h => ?_)
    · replace H := H.1 h
      refine w_aload_n rfl rfl ?_
      obtain ⟨g1, H⟩ := H
      refine c_getr rfl rfl rfl g1 ?_
      refine w_iconst (n := 3) rfl rfl ?_
      refine w_aload_n rfl rfl ?_
      obtain ⟨g2, H⟩ := H
      refine c_get rfl rfl rfl g2 ?_
      refine w_aload_n rfl rfl ?_
      refine w_aload_n rfl rfl ?_
      refine c_getr rfl rfl rfl g2 ?_
      refine w_iconst (n := 0) rfl rfl ?_
      obtain ⟨g3, H⟩ := H
      obtain ⟨g4, H⟩ := H
      refine c_aald (t := 3) rfl ⟨g3, by decide, by decide⟩ g4 ?_
      refine w_iload rfl rfl ?_
      refine w_iload_n rfl rfl ?_
      refine c_virt (p := a0) (as := [vr (aR s (fR s a1 3) 0), vi (-1), vi a3]) (r := [vi (fI s a1 2), vi 3, vr (fR s a0 0)]) rfl rfl rfl rfl rfl rfl g1 (wc_mono H (Nat.le_refl _) ?_)
      rintro _ s5 ⟨r6, rfl, H⟩
      show wk iv L h0 (d + 1) 168 92 [lr a0, lr a1, li a2, li a3, li (-1)] [vi r6, vi (fI s a1 2), vi 3, vr (fR s a0 0)] s5 (qi F)
      obtain ⟨g7, H⟩ := H
      refine c_virt (p := (fR s a0 0)) (as := [vi 3, vi (fI s a1 2), vi r6]) (r := []) rfl rfl rfl rfl rfl rfl g7 (wc_mono H (Nat.le_refl _) ?_)
      rintro _ s8 ⟨r9, rfl, H⟩
      show wk iv L h0 (d + 1) 168 95 [lr a0, lr a1, li a2, li a3, li (-1)] [vi r9] s8 (qi F)
      exact w_iret rfl rfl ⟨_, rfl, H⟩
    · replace H := H.2 h
      refine w_aload_n rfl rfl ?_
      obtain ⟨g10, H⟩ := H
      refine c_getr rfl rfl rfl g10 ?_
      obtain ⟨g11, H⟩ := H
      refine c_getr rfl rfl rfl g11 ?_
      refine w_iload_n rfl rfl ?_
      obtain ⟨g12, H⟩ := H
      obtain ⟨g13, H⟩ := H
      refine c_ald rfl g12 g13 ?_
      refine w_iconst (n := 3) rfl rfl ?_
      refine w_icmp_ne rfl (fun h => ?_) (fun h => ?_)
      · replace H := H.1 h
        refine w_aload_n rfl rfl ?_
        refine c_getr rfl rfl rfl g10 ?_
        refine w_iconst (n := 3) rfl rfl ?_
        refine w_aload_n rfl rfl ?_
        obtain ⟨g14, H⟩ := H
        refine c_get rfl rfl rfl g14 ?_
        refine w_aload_n rfl rfl ?_
        refine w_aload_n rfl rfl ?_
        refine c_getr rfl rfl rfl g14 ?_
        refine w_iconst (n := 0) rfl rfl ?_
        obtain ⟨g15, H⟩ := H
        obtain ⟨g16, H⟩ := H
        refine c_aald (t := 3) rfl ⟨g15, by decide, by decide⟩ g16 ?_
        refine w_iload rfl rfl ?_
        refine w_iload_n rfl rfl ?_
        refine c_virt (p := a0) (as := [vr (aR s (fR s a1 3) 0), vi (-1), vi a3]) (r := [vi (fI s a1 2), vi 3, vr (fR s a0 0)]) rfl rfl rfl rfl rfl rfl g10 (wc_mono H (Nat.le_refl _) ?_)
        rintro _ s17 ⟨r18, rfl, H⟩
        show wk iv L h0 (d + 1) 168 92 [lr a0, lr a1, li a2, li a3, li (-1)] [vi r18, vi (fI s a1 2), vi 3, vr (fR s a0 0)] s17 (qi F)
        obtain ⟨g19, H⟩ := H
        refine c_virt (p := (fR s a0 0)) (as := [vi 3, vi (fI s a1 2), vi r18]) (r := []) rfl rfl rfl rfl rfl rfl g19 (wc_mono H (Nat.le_refl _) ?_)
        rintro _ s20 ⟨r21, rfl, H⟩
        show wk iv L h0 (d + 1) 168 95 [lr a0, lr a1, li a2, li a3, li (-1)] [vi r21] s20 (qi F)
        exact w_iret rfl rfl ⟨_, rfl, H⟩
      · replace H := H.2 h
        refine w_aload_n rfl rfl ?_
        refine c_getr rfl rfl rfl g10 ?_
        refine c_getr rfl rfl rfl g11 ?_
        refine w_iload_n rfl rfl ?_
        obtain ⟨g22, H⟩ := H
        obtain ⟨g23, H⟩ := H
        refine c_ald rfl g22 g23 ?_
        refine w_istore rfl rfl ?_
        refine w_aload_n rfl rfl ?_
        refine c_getr rfl rfl rfl g10 ?_
        refine w_aload_n rfl rfl ?_
        obtain ⟨g24, H⟩ := H
        refine c_get rfl rfl rfl g24 ?_
        refine w_aload_n rfl rfl ?_
        refine c_getr rfl rfl rfl g10 ?_
        refine c_getr rfl rfl rfl g11 ?_
        refine w_iload_n rfl rfl ?_
        obtain ⟨g25, H⟩ := H
        obtain ⟨g26, H⟩ := H
        refine c_ald rfl g25 g26 ?_
        refine c_virt (p := (fR s a0 0)) (as := [vi (fI s a1 2), vi (aI s (fR s (fR s a0 0) 1) a2)]) (r := []) rfl rfl rfl rfl rfl rfl g11 (wc_mono H (Nat.le_refl _) ?_)
        rintro _ s27 ⟨r28, rfl, H⟩
        show wk iv L h0 (d + 1) 168 62 [lr a0, lr a1, li a2, li a3, li (aI s (fR s (fR s a0 0) 2) a2)] [vi r28] s27 (qi F)
        refine w_if_ne rfl (fun h => ?_) (fun h => ?_)
        · replace H := H.1 h
          refine w_aload_n rfl rfl ?_
          obtain ⟨g29, H⟩ := H
          refine c_getr rfl rfl rfl g29 ?_
          refine w_iconst (n := 3) rfl rfl ?_
          refine w_aload_n rfl rfl ?_
          obtain ⟨g30, H⟩ := H
          refine c_get rfl rfl rfl g30 ?_
          refine w_aload_n rfl rfl ?_
          refine w_aload_n rfl rfl ?_
          refine c_getr rfl rfl rfl g30 ?_
          refine w_iconst (n := 0) rfl rfl ?_
          obtain ⟨g31, H⟩ := H
          obtain ⟨g32, H⟩ := H
          refine c_aald (t := 3) rfl ⟨g31, by decide, by decide⟩ g32 ?_
          refine w_iload rfl rfl ?_
          refine w_iload_n rfl rfl ?_
          refine c_virt (p := a0) (as := [vr (aR s27 (fR s27 a1 3) 0), vi (aI s (fR s (fR s a0 0) 2) a2), vi a3]) (r := [vi (fI s27 a1 2), vi 3, vr (fR s27 a0 0)]) rfl rfl rfl rfl rfl rfl g29 (wc_mono H (Nat.le_refl _) ?_)
          rintro _ s33 ⟨r34, rfl, H⟩
          show wk iv L h0 (d + 1) 168 92 [lr a0, lr a1, li a2, li a3, li (aI s (fR s (fR s a0 0) 2) a2)] [vi r34, vi (fI s27 a1 2), vi 3, vr (fR s27 a0 0)] s33 (qi F)
          obtain ⟨g35, H⟩ := H
          refine c_virt (p := (fR s27 a0 0)) (as := [vi 3, vi (fI s27 a1 2), vi r34]) (r := []) rfl rfl rfl rfl rfl rfl g35 (wc_mono H (Nat.le_refl _) ?_)
          rintro _ s36 ⟨r37, rfl, H⟩
          show wk iv L h0 (d + 1) 168 95 [lr a0, lr a1, li a2, li a3, li (aI s (fR s (fR s a0 0) 2) a2)] [vi r37] s36 (qi F)
          exact w_iret rfl rfl ⟨_, rfl, H⟩
        · replace H := H.2 h
          refine w_aload_n rfl rfl ?_
          refine w_iconst (n := 4) rfl rfl ?_
          obtain ⟨g38, H⟩ := H
          refine c_put rfl rfl rfl rfl g38 ?_
          refine w_aload_n rfl rfl ?_
          obtain ⟨g39, H⟩ := H
          refine c_getr rfl rfl rfl g39 ?_
          show wk iv L h0 (d + 1) 168 74 [lr a0, lr a1, li a2, li a3, li (aI s (fR s (fR s a0 0) 2) a2)] [vr (fR s27 a0 0)] (uI s27 a1 10 4) (qi F)
          refine w_iconst (n := 3) rfl rfl ?_
          refine w_aload_n rfl rfl ?_
          refine c_get rfl rfl rfl g38 ?_
          show wk iv L h0 (d + 1) 168 79 [lr a0, lr a1, li a2, li a3, li (aI s (fR s (fR s a0 0) 2) a2)] [vi (fI s27 a1 2), vi 3, vr (fR s27 a0 0)] (uI s27 a1 10 4) (qi F)
          refine w_aload_n rfl rfl ?_
          refine w_aload_n rfl rfl ?_
          refine c_getr rfl rfl rfl g38 ?_
          show wk iv L h0 (d + 1) 168 84 [lr a0, lr a1, li a2, li a3, li (aI s (fR s (fR s a0 0) 2) a2)] [vr (fR s27 a1 3), vr a0, vi (fI s27 a1 2), vi 3, vr (fR s27 a0 0)] (uI s27 a1 10 4) (qi F)
          refine w_iconst (n := 0) rfl rfl ?_
          obtain ⟨g40, H⟩ := H
          obtain ⟨g41, H⟩ := H
          refine c_aald (t := 3) rfl ⟨g40, by decide, by decide⟩ g41 ?_
          show wk iv L h0 (d + 1) 168 86 [lr a0, lr a1, li a2, li a3, li (aI s (fR s (fR s a0 0) 2) a2)] [vr (aR s27 (fR s27 a1 3) 0), vr a0, vi (fI s27 a1 2), vi 3, vr (fR s27 a0 0)] (uI s27 a1 10 4) (qi F)
          refine w_iload rfl rfl ?_
          refine w_iload_n rfl rfl ?_
          refine c_virt (p := a0) (as := [vr (aR s27 (fR s27 a1 3) 0), vi (aI s (fR s (fR s a0 0) 2) a2), vi a3]) (r := [vi (fI s27 a1 2), vi 3, vr (fR s27 a0 0)]) rfl rfl rfl rfl rfl rfl g39 (wc_mono H (Nat.le_refl _) ?_)
          rintro _ s42 ⟨r43, rfl, H⟩
          show wk iv L h0 (d + 1) 168 92 [lr a0, lr a1, li a2, li a3, li (aI s (fR s (fR s a0 0) 2) a2)] [vi r43, vi (fI s27 a1 2), vi 3, vr (fR s27 a0 0)] s42 (qi F)
          obtain ⟨g44, H⟩ := H
          refine c_virt (p := (fR s27 a0 0)) (as := [vi 3, vi (fI s27 a1 2), vi r43]) (r := []) rfl rfl rfl rfl rfl rfl g44 (wc_mono H (Nat.le_refl _) ?_)
          rintro _ s45 ⟨r46, rfl, H⟩
          show wk iv L h0 (d + 1) 168 95 [lr a0, lr a1, li a2, li a3, li (aI s (fR s (fR s a0 0) 2) a2)] [vi r46] s45 (qi F)
          exact w_iret rfl rfl ⟨_, rfl, H⟩
  · replace H := H.2 h
    refine w_iconst (n := 0) rfl rfl ?_
    refine w_istore rfl rfl ?_
    refine w_goto rfl ?_
    refine w_aload_n rfl rfl ?_
    obtain ⟨g47, H⟩ := H
    refine c_getr rfl rfl rfl g47 ?_
    refine w_iconst (n := 3) rfl rfl ?_
    refine w_aload_n rfl rfl ?_
    obtain ⟨g48, H⟩ := H
    refine c_get rfl rfl rfl g48 ?_
    refine w_aload_n rfl rfl ?_
    refine w_aload_n rfl rfl ?_
    refine c_getr rfl rfl rfl g48 ?_
    refine w_iconst (n := 0) rfl rfl ?_
    obtain ⟨g49, H⟩ := H
    obtain ⟨g50, H⟩ := H
    refine c_aald (t := 3) rfl ⟨g49, by decide, by decide⟩ g50 ?_
    refine w_iload rfl rfl ?_
    refine w_iload_n rfl rfl ?_
    refine c_virt (p := a0) (as := [vr (aR s (fR s a1 3) 0), vi 0, vi a3]) (r := [vi (fI s a1 2), vi 3, vr (fR s a0 0)]) rfl rfl rfl rfl rfl rfl g47 (wc_mono H (Nat.le_refl _) ?_)
    rintro _ s51 ⟨r52, rfl, H⟩
    show wk iv L h0 (d + 1) 168 92 [lr a0, lr a1, li a2, li a3, li 0] [vi r52, vi (fI s a1 2), vi 3, vr (fR s a0 0)] s51 (qi F)
    obtain ⟨g53, H⟩ := H
    refine c_virt (p := (fR s a0 0)) (as := [vi 3, vi (fI s a1 2), vi r52]) (r := []) rfl rfl rfl rfl rfl rfl g53 (wc_mono H (Nat.le_refl _) ?_)
    rintro _ s54 ⟨r55, rfl, H⟩
    show wk iv L h0 (d + 1) 168 95 [lr a0, lr a1, li a2, li a3, li 0] [vi r55] s54 (qi F)
    exact w_iret rfl rfl ⟨_, rfl, H⟩

/-- HoleDesk$Judge.useMakes(LHoleDesk$Node;I)I -/
theorem C169 {iv : List (Int × Int)} {L : Nat} {h0 : MH} {d : Nat} {s : SC} {a0 : Nat} {a1 : Nat} {a2 : Int} {F : Int → SC → Prop} (H : (kl s a1 = 5) ∧ (kl s (fR s a1 3) = 103) ∧ ((0 : Int) ≤ 0 ∧ 0 < le s (fR s a1 3)) ∧ (kl s a0 = 3) ∧ ck iv L h0 d 165 [vr a0, vr (aR s (fR s a1 3) 0), vi (-1), vi a2] s (qi fun r6 s5 => (kl s5 a0 = 3) ∧ (kl s5 (fR s5 a0 0) = 4) ∧ (kl s5 (fR s5 (fR s5 a0 0) 0) = 100) ∧ (0 ≤ r6 ∧ r6 < le s5 (fR s5 (fR s5 a0 0) 0)) ∧ ((aI s5 (fR s5 (fR s5 a0 0) 0) r6 ≠ 3 → (kl s5 a1 = 5) ∧ (kl s5 (fR s5 a1 3) = 103) ∧ ((0 : Int) ≤ 0 ∧ 0 < le s5 (fR s5 a1 3)) ∧ (kl s5 (aR s5 (fR s5 a1 3) 0) = 5) ∧ ((fI s5 (aR s5 (fR s5 a1 3) 0) 10 ≠ 0 → ((0 : Int) ≤ 1 ∧ 1 < le s5 (fR s5 a1 3)) ∧ ck iv L h0 d 165 [vr a0, vr (aR s5 (fR s5 a1 3) 1), vi 0, vi a2] s5 (qi fun r17 s16 => F 0 s16)) ∧ (fI s5 (aR s5 (fR s5 a1 3) 0) 10 = 0 → ck iv L h0 d 173 [vr a0, vi 9, vi r6] s5 (qi fun r19 s18 => (kl s18 (aR s5 (fR s5 a1 3) 0) = 5) ∧ (kl s18 a1 = 5) ∧ (kl s18 (fR s18 a1 3) = 103) ∧ ((0 : Int) ≤ 1 ∧ 1 < le s18 (fR s18 a1 3)) ∧ (kl s18 a0 = 3) ∧ ck iv L h0 d 165 [vr a0, vr (aR s18 (fR s18 a1 3) 1), vi 0, vi a2] (uI s18 (aR s5 (fR s5 a1 3) 0) 10 r19) (qi fun r26 s25 => F 0 s25))))) ∧ (aI s5 (fR s5 (fR s5 a0 0) 0) r6 = 3 → (kl s5 a1 = 5) ∧ (kl s5 (fR s5 a1 3) = 103) ∧ ((0 : Int) ≤ 1 ∧ 1 < le s5 (fR s5 a1 3)) ∧ (kl s5 (fR s5 (fR s5 a0 0) 1) = 100) ∧ (0 ≤ r6 ∧ r6 < le s5 (fR s5 (fR s5 a0 0) 1)) ∧ ck iv L h0 d 165 [vr a0, vr (aR s5 (fR s5 a1 3) 1), vi (aI s5 (fR s5 (fR s5 a0 0) 1) r6), vi a2] s5 (qi fun r33 s32 => (kl s32 a0 = 3) ∧ (kl s32 (fR s32 a0 0) = 4) ∧ (kl s32 (fR s32 (fR s32 a0 0) 2) = 100) ∧ (0 ≤ r6 ∧ r6 < le s32 (fR s32 (fR s32 a0 0) 2)) ∧ F (aI s32 (fR s32 (fR s32 a0 0) 2) r6) s32))))) : ck iv L h0 (d + 1) 169 [vr a0, vr a1, vi a2] s (qi F) := by
  show wk iv L h0 (d + 1) 169 0 [lr a0, lr a1, li a2] [] s (qi F)
  refine w_aload_n rfl rfl ?_
  refine w_aload_n rfl rfl ?_
  obtain ⟨g1, H⟩ := H
  refine c_getr rfl rfl rfl g1 ?_
  refine w_iconst (n := 0) rfl rfl ?_
  obtain ⟨g2, H⟩ := H
  obtain ⟨g3, H⟩ := H
  refine c_aald (t := 3) rfl ⟨g2, by decide, by decide⟩ g3 ?_
  refine w_iconst (n := (-1)) rfl rfl ?_
  refine w_iload_n rfl rfl ?_
  obtain ⟨g4, H⟩ := H
  refine c_virt (p := a0) (as := [vr (aR s (fR s a1 3) 0), vi (-1), vi a2]) (r := []) rfl rfl rfl rfl rfl rfl g4 (wc_mono H (Nat.le_refl _) ?_)
  rintro _ s5 ⟨r6, rfl, H⟩
  show wk iv L h0 (d + 1) 169 12 [lr a0, lr a1, li a2] [vi r6] s5 (qi F)
  refine w_istore_n rfl rfl ?_
  refine w_aload_n rfl rfl ?_
  obtain ⟨g7, H⟩ := H
  refine c_getr rfl rfl rfl g7 ?_
  obtain ⟨g8, H⟩ := H
  refine c_getr rfl rfl rfl g8 ?_
  refine w_iload_n rfl rfl ?_
  obtain ⟨g9, H⟩ := H
  obtain ⟨g10, H⟩ := H
  refine c_ald rfl g9 g10 ?_
  refine w_iconst (n := 3) rfl rfl ?_
  refine w_icmp_ne rfl (fun h => ?_) (fun h => ?_)
  · replace H := H.1 h
    refine w_aload_n rfl rfl ?_
    obtain ⟨g11, H⟩ := H
    refine c_getr rfl rfl rfl g11 ?_
    refine w_iconst (n := 0) rfl rfl ?_
    obtain ⟨g12, H⟩ := H
    obtain ⟨g13, H⟩ := H
    refine c_aald (t := 3) rfl ⟨g12, by decide, by decide⟩ g13 ?_
    obtain ⟨g14, H⟩ := H
    refine c_get rfl rfl rfl g14 ?_
    refine w_if_ne rfl (fun h => ?_) (fun h => ?_)
    · replace H := H.1 h
      refine w_aload_n rfl rfl ?_
      refine w_aload_n rfl rfl ?_
      refine c_getr rfl rfl rfl g11 ?_
      refine w_iconst (n := 1) rfl rfl ?_
      obtain ⟨g15, H⟩ := H
      refine c_aald (t := 3) rfl ⟨g12, by decide, by decide⟩ g15 ?_
      refine w_iconst (n := 0) rfl rfl ?_
      refine w_iload_n rfl rfl ?_
      refine c_virt (p := a0) (as := [vr (aR s5 (fR s5 a1 3) 1), vi 0, vi a2]) (r := []) rfl rfl rfl rfl rfl rfl g7 (wc_mono H (Nat.le_refl _) ?_)
      rintro _ s16 ⟨r17, rfl, H⟩
      show wk iv L h0 (d + 1) 169 97 [lr a0, lr a1, li a2, li r6] [vi r17] s16 (qi F)
      refine w_pop rfl rfl ?_
      refine w_iconst (n := 0) rfl rfl ?_
      exact w_iret rfl rfl ⟨_, rfl, H⟩
    · replace H := H.2 h
      refine w_aload_n rfl rfl ?_
      refine c_getr rfl rfl rfl g11 ?_
      refine w_iconst (n := 0) rfl rfl ?_
      refine c_aald (t := 3) rfl ⟨g12, by decide, by decide⟩ g13 ?_
      refine w_aload_n rfl rfl ?_
      refine w_bipush (n := 9) rfl rfl rfl ?_
      refine w_iload_n rfl rfl ?_
      refine c_virt (p := a0) (as := [vi 9, vi r6]) (r := [vr (aR s5 (fR s5 a1 3) 0)]) rfl rfl rfl rfl rfl rfl g7 (wc_mono H (Nat.le_refl _) ?_)
      rintro _ s18 ⟨r19, rfl, H⟩
      show wk iv L h0 (d + 1) 169 82 [lr a0, lr a1, li a2, li r6] [vi r19, vr (aR s5 (fR s5 a1 3) 0)] s18 (qi F)
      obtain ⟨g20, H⟩ := H
      refine c_put rfl rfl rfl rfl g20 ?_
      refine w_aload_n rfl rfl ?_
      refine w_aload_n rfl rfl ?_
      obtain ⟨g21, H⟩ := H
      refine c_getr rfl rfl rfl g21 ?_
      show wk iv L h0 (d + 1) 169 90 [lr a0, lr a1, li a2, li r6] [vr (fR s18 a1 3), vr a0] (uI s18 (aR s5 (fR s5 a1 3) 0) 10 r19) (qi F)
      refine w_iconst (n := 1) rfl rfl ?_
      obtain ⟨g22, H⟩ := H
      obtain ⟨g23, H⟩ := H
      refine c_aald (t := 3) rfl ⟨g22, by decide, by decide⟩ g23 ?_
      show wk iv L h0 (d + 1) 169 92 [lr a0, lr a1, li a2, li r6] [vr (aR s18 (fR s18 a1 3) 1), vr a0] (uI s18 (aR s5 (fR s5 a1 3) 0) 10 r19) (qi F)
      refine w_iconst (n := 0) rfl rfl ?_
      refine w_iload_n rfl rfl ?_
      obtain ⟨g24, H⟩ := H
      refine c_virt (p := a0) (as := [vr (aR s18 (fR s18 a1 3) 1), vi 0, vi a2]) (r := []) rfl rfl rfl rfl rfl rfl g24 (wc_mono H (Nat.le_refl _) ?_)
      rintro _ s25 ⟨r26, rfl, H⟩
      show wk iv L h0 (d + 1) 169 97 [lr a0, lr a1, li a2, li r6] [vi r26] s25 (qi F)
      refine w_pop rfl rfl ?_
      refine w_iconst (n := 0) rfl rfl ?_
      exact w_iret rfl rfl ⟨_, rfl, H⟩
  · replace H := H.2 h
    refine w_aload_n rfl rfl ?_
    refine w_aload_n rfl rfl ?_
    obtain ⟨g27, H⟩ := H
    refine c_getr rfl rfl rfl g27 ?_
    refine w_iconst (n := 1) rfl rfl ?_
    obtain ⟨g28, H⟩ := H
    obtain ⟨g29, H⟩ := H
    refine c_aald (t := 3) rfl ⟨g28, by decide, by decide⟩ g29 ?_
    refine w_aload_n rfl rfl ?_
    refine c_getr rfl rfl rfl g7 ?_
    refine c_getr rfl rfl rfl g8 ?_
    refine w_iload_n rfl rfl ?_
    obtain ⟨g30, H⟩ := H
    obtain ⟨g31, H⟩ := H
    refine c_ald rfl g30 g31 ?_
    refine w_iload_n rfl rfl ?_
    refine c_virt (p := a0) (as := [vr (aR s5 (fR s5 a1 3) 1), vi (aI s5 (fR s5 (fR s5 a0 0) 1) r6), vi a2]) (r := []) rfl rfl rfl rfl rfl rfl g7 (wc_mono H (Nat.le_refl _) ?_)
    rintro _ s32 ⟨r33, rfl, H⟩
    show wk iv L h0 (d + 1) 169 46 [lr a0, lr a1, li a2, li r6] [vi r33] s32 (qi F)
    refine w_pop rfl rfl ?_
    refine w_aload_n rfl rfl ?_
    obtain ⟨g34, H⟩ := H
    refine c_getr rfl rfl rfl g34 ?_
    obtain ⟨g35, H⟩ := H
    refine c_getr rfl rfl rfl g35 ?_
    refine w_iload_n rfl rfl ?_
    obtain ⟨g36, H⟩ := H
    obtain ⟨g37, H⟩ := H
    refine c_ald rfl g36 g37 ?_
    exact w_iret rfl rfl ⟨_, rfl, H⟩

/-- HoleDesk$Judge.pickMakes(LHoleDesk$Node;II)I -/
theorem C170 {iv : List (Int × Int)} {L : Nat} {h0 : MH} {d : Nat} {s : SC} {a0 : Nat} {a1 : Nat} {a2 : Int} {a3 : Int} {F : Int → SC → Prop} (H : (kl s a1 = 5) ∧ (kl s (fR s a1 3) = 103) ∧ ((0 : Int) ≤ 0 ∧ 0 < le s (fR s a1 3)) ∧ (kl s a0 = 3) ∧ ck iv L h0 d 165 [vr a0, vr (aR s (fR s a1 3) 0), vi 2, vi a3] s (qi fun r6 s5 => (kl s5 a1 = 5) ∧ (kl s5 (fR s5 a1 3) = 103) ∧ ((0 : Int) ≤ 1 ∧ 1 < le s5 (fR s5 a1 3)) ∧ (kl s5 a0 = 3) ∧ ck iv L h0 d 165 [vr a0, vr (aR s5 (fR s5 a1 3) 1), vi a2, vi a3] s5 (qi fun r12 s11 => (kl s11 a1 = 5) ∧ (kl s11 (fR s11 a1 3) = 103) ∧ ((0 : Int) ≤ 2 ∧ 2 < le s11 (fR s11 a1 3)) ∧ (kl s11 a0 = 3) ∧ ck iv L h0 d 165 [vr a0, vr (aR s11 (fR s11 a1 3) 2), vi a2, vi a3] s11 (qi fun r18 s17 => ((a2 = (-1) → (kl s17 a0 = 3) ∧ (kl s17 (fR s17 a0 0) = 4) ∧ ck iv L h0 d 182 [vr (fR s17 a0 0), vi r12, vi r18] s17 (qi fun r22 s21 => ((r22 = 0 → (kl s21 a1 = 5) ∧ F 0 (uI s21 a1 10 5)) ∧ (r22 ≠ 0 → (kl s21 a0 = 3) ∧ (kl s21 (fR s21 a0 0) = 4) ∧ ck iv L h0 d 184 [vr (fR s21 a0 0), vi r12, vi r18, vi 0] s21 (qi fun r27 s26 => F r27 s26))))) ∧ (a2 ≠ (-1) → F a2 s17)))))) : ck iv L h0 (d + 1) 170 [vr a0, vr a1, vi a2, vi a3] s (qi F) := by
  show wk iv L h0 (d + 1) 170 0 [lr a0, lr a1, li a2, li a3] [] s (qi F)
  refine w_aload_n rfl rfl ?_
  refine w_aload_n rfl rfl ?_
  obtain ⟨g1, H⟩ := H
  refine c_getr rfl rfl rfl g1 ?_
  refine w_iconst (n := 0) rfl rfl ?_
  obtain ⟨g2, H⟩ := H
  obtain ⟨g3, H⟩ := H
  refine c_aald (t := 3) rfl ⟨g2, by decide, by decide⟩ g3 ?_
  refine w_iconst (n := 2) rfl rfl ?_
  refine w_iload_n rfl rfl ?_
  obtain ⟨g4, H⟩ := H
  refine c_virt (p := a0) (as := [vr (aR s (fR s a1 3) 0), vi 2, vi a3]) (r := []) rfl rfl rfl rfl rfl rfl g4 (wc_mono H (Nat.le_refl _) ?_)
  rintro _ s5 ⟨r6, rfl, H⟩
  show wk iv L h0 (d + 1) 170 12 [lr a0, lr a1, li a2, li a3] [vi r6] s5 (qi F)
  refine w_pop rfl rfl ?_
  refine w_aload_n rfl rfl ?_
  refine w_aload_n rfl rfl ?_
  obtain ⟨g7, H⟩ := H
  refine c_getr rfl rfl rfl g7 ?_
  refine w_iconst (n := 1) rfl rfl ?_
  obtain ⟨g8, H⟩ := H
  obtain ⟨g9, H⟩ := H
  refine c_aald (t := 3) rfl ⟨g8, by decide, by decide⟩ g9 ?_
  refine w_iload_n rfl rfl ?_
  refine w_iload_n rfl rfl ?_
  obtain ⟨g10, H⟩ := H
  refine c_virt (p := a0) (as := [vr (aR s5 (fR s5 a1 3) 1), vi a2, vi a3]) (r := []) rfl rfl rfl rfl rfl rfl g10 (wc_mono H (Nat.le_refl _) ?_)
  rintro _ s11 ⟨r12, rfl, H⟩
  show wk iv L h0 (d + 1) 170 25 [lr a0, lr a1, li a2, li a3] [vi r12] s11 (qi F)
  refine w_istore rfl rfl ?_
  refine w_aload_n rfl rfl ?_
  refine w_aload_n rfl rfl ?_
  obtain ⟨g13, H⟩ := H
  refine c_getr rfl rfl rfl g13 ?_
  refine w_iconst (n := 2) rfl rfl ?_
  obtain ⟨g14, H⟩ := H
  obtain ⟨g15, H⟩ := H
  refine c_aald (t := 3) rfl ⟨g14, by decide, by decide⟩ g15 ?_
  refine w_iload_n rfl rfl ?_
  refine w_iload_n rfl rfl ?_
  obtain ⟨g16, H⟩ := H
  refine c_virt (p := a0) (as := [vr (aR s11 (fR s11 a1 3) 2), vi a2, vi a3]) (r := []) rfl rfl rfl rfl rfl rfl g16 (wc_mono H (Nat.le_refl _) ?_)
  rintro _ s17 ⟨r18, rfl, H⟩
  show wk iv L h0 (d + 1) 170 39 [lr a0, lr a1, li a2, li a3, li r12] [vi r18] s17 (qi F)
  refine w_istore rfl rfl ?_
  refine w_iload_n rfl rfl ?_
  refine w_iconst (n := (-1)) rfl rfl ?_
  refine w_icmp_eq rfl (fun h => ?_) (fun h => ?_)
  · replace H := H.1 h
    refine w_aload_n rfl rfl ?_
    obtain ⟨g19, H⟩ := H
    refine c_getr rfl rfl rfl g19 ?_
    refine w_iload rfl rfl ?_
    refine w_iload rfl rfl ?_
    obtain ⟨g20, H⟩ := H
    refine c_virt (p := (fR s17 a0 0)) (as := [vi r12, vi r18]) (r := []) rfl rfl rfl rfl rfl rfl g20 (wc_mono H (Nat.le_refl _) ?_)
    rintro _ s21 ⟨r22, rfl, H⟩
    show wk iv L h0 (d + 1) 170 59 [lr a0, lr a1, li a2, li a3, li r12, li r18] [vi r22] s21 (qi F)
    refine w_if_eq rfl (fun h => ?_) (fun h => ?_)
    · replace H := H.1 h
      refine w_aload_n rfl rfl ?_
      refine w_iconst (n := 5) rfl rfl ?_
      obtain ⟨g23, H⟩ := H
      refine c_put rfl rfl rfl rfl g23 ?_
      refine w_iconst (n := 0) rfl rfl ?_
      exact w_iret rfl rfl ⟨_, rfl, H⟩
    · replace H := H.2 h
      refine w_aload_n rfl rfl ?_
      obtain ⟨g24, H⟩ := H
      refine c_getr rfl rfl rfl g24 ?_
      refine w_iload rfl rfl ?_
      refine w_iload rfl rfl ?_
      refine w_iconst (n := 0) rfl rfl ?_
      obtain ⟨g25, H⟩ := H
      refine c_virt (p := (fR s21 a0 0)) (as := [vi r12, vi r18, vi 0]) (r := []) rfl rfl rfl rfl rfl rfl g25 (wc_mono H (Nat.le_refl _) ?_)
      rintro _ s26 ⟨r27, rfl, H⟩
      show wk iv L h0 (d + 1) 170 74 [lr a0, lr a1, li a2, li a3, li r12, li r18] [vi r27] s26 (qi F)
      exact w_iret rfl rfl ⟨_, rfl, H⟩
  · replace H := H.2 h
    refine w_iload_n rfl rfl ?_
    exact w_iret rfl rfl ⟨_, rfl, H⟩

/-- HoleDesk$Judge.pairMakes(LHoleDesk$Node;II)I -/
theorem C171 {iv : List (Int × Int)} {L : Nat} {h0 : MH} {d : Nat} {s : SC} {a0 : Nat} {a1 : Nat} {a2 : Int} {a3 : Int} {F : Int → SC → Prop} (H : ((a2 ≠ 0 → ((a2 = (-1) → (kl s a1 = 5) ∧ (kl s (fR s a1 3) = 103) ∧ ((0 : Int) ≤ 0 ∧ 0 < le s (fR s a1 3)) ∧ (kl s a0 = 3) ∧ ck iv L h0 d 165 [vr a0, vr (aR s (fR s a1 3) 0), vi (-1), vi a3] s (qi fun r6 s5 => (kl s5 a1 = 5) ∧ (kl s5 (fR s5 a1 3) = 103) ∧ ((0 : Int) ≤ 1 ∧ 1 < le s5 (fR s5 a1 3)) ∧ (kl s5 a0 = 3) ∧ ck iv L h0 d 165 [vr a0, vr (aR s5 (fR s5 a1 3) 1), vi (-1), vi a3] s5 (qi fun r12 s11 => (kl s11 a0 = 3) ∧ (kl s11 (fR s11 a0 0) = 4) ∧ ck iv L h0 d 181 [vr (fR s11 a0 0), vi 4, vi r6, vi r12] s11 (qi fun r16 s15 => F r16 s15)))) ∧ (a2 ≠ (-1) → (kl s a0 = 3) ∧ (kl s (fR s a0 0) = 4) ∧ (kl s (fR s (fR s a0 0) 0) = 100) ∧ (0 ≤ a2 ∧ a2 < le s (fR s (fR s a0 0) 0)) ∧ ((aI s (fR s (fR s a0 0) 0) a2 ≠ 4 → (kl s a1 = 5) ∧ (kl s (fR s a1 3) = 103) ∧ ((0 : Int) ≤ 0 ∧ 0 < le s (fR s a1 3)) ∧ ck iv L h0 d 165 [vr a0, vr (aR s (fR s a1 3) 0), vi (-1), vi a3] s (qi fun r25 s24 => (kl s24 a1 = 5) ∧ (kl s24 (fR s24 a1 3) = 103) ∧ ((0 : Int) ≤ 1 ∧ 1 < le s24 (fR s24 a1 3)) ∧ (kl s24 a0 = 3) ∧ ck iv L h0 d 165 [vr a0, vr (aR s24 (fR s24 a1 3) 1), vi (-1), vi a3] s24 (qi fun r31 s30 => (kl s30 a0 = 3) ∧ (kl s30 (fR s30 a0 0) = 4) ∧ ck iv L h0 d 181 [vr (fR s30 a0 0), vi 4, vi r25, vi r31] s30 (qi fun r35 s34 => F r35 s34)))) ∧ (aI s (fR s (fR s a0 0) 0) a2 = 4 → (kl s (fR s (fR s a0 0) 1) = 100) ∧ (0 ≤ a2 ∧ a2 < le s (fR s (fR s a0 0) 1)) ∧ (kl s (fR s (fR s a0 0) 2) = 100) ∧ (0 ≤ a2 ∧ a2 < le s (fR s (fR s a0 0) 2)) ∧ (kl s a1 = 5) ∧ (kl s (fR s a1 3) = 103) ∧ ((0 : Int) ≤ 0 ∧ 0 < le s (fR s a1 3)) ∧ ck iv L h0 d 165 [vr a0, vr (aR s (fR s a1 3) 0), vi (aI s (fR s (fR s a0 0) 1) a2), vi a3] s (qi fun r44 s43 => (kl s43 a1 = 5) ∧ (kl s43 (fR s43 a1 3) = 103) ∧ ((0 : Int) ≤ 1 ∧ 1 < le s43 (fR s43 a1 3)) ∧ (kl s43 a0 = 3) ∧ ck iv L h0 d 165 [vr a0, vr (aR s43 (fR s43 a1 3) 1), vi (aI s (fR s (fR s a0 0) 2) a2), vi a3] s43 (qi fun r50 s49 => (kl s49 a0 = 3) ∧ (kl s49 (fR s49 a0 0) = 4) ∧ ck iv L h0 d 181 [vr (fR s49 a0 0), vi 4, vi r44, vi r50] s49 (qi fun r54 s53 => F r54 s53)))))))) ∧ (a2 = 0 → (kl s a1 = 5) ∧ (kl s (fR s a1 3) = 103) ∧ ((0 : Int) ≤ 0 ∧ 0 < le s (fR s a1 3)) ∧ (kl s a0 = 3) ∧ ck iv L h0 d 165 [vr a0, vr (aR s (fR s a1 3) 0), vi 0, vi a3] s (qi fun r60 s59 => (kl s59 a1 = 5) ∧ (kl s59 (fR s59 a1 3) = 103) ∧ ((0 : Int) ≤ 1 ∧ 1 < le s59 (fR s59 a1 3)) ∧ (kl s59 a0 = 3) ∧ ck iv L h0 d 165 [vr a0, vr (aR s59 (fR s59 a1 3) 1), vi 0, vi a3] s59 (qi fun r66 s65 => (kl s65 a0 = 3) ∧ (kl s65 (fR s65 a0 0) = 4) ∧ ck iv L h0 d 181 [vr (fR s65 a0 0), vi 4, vi r60, vi r66] s65 (qi fun r70 s69 => F r70 s69)))))) : ck iv L h0 (d + 1) 171 [vr a0, vr a1, vi a2, vi a3] s (qi F) := by
  show wk iv L h0 (d + 1) 171 0 [lr a0, lr a1, li a2, li a3] [] s (qi F)
  refine w_iconst (n := (-1)) rfl rfl ?_
  refine w_istore rfl rfl ?_
  refine w_iconst (n := (-1)) rfl rfl ?_
  refine w_istore rfl rfl ?_
  refine w_iload_n rfl rfl ?_
  refine w_if_ne rfl (fun h => ?_) (fun h => ?_)
  · replace H := H.1 h
    refine w_iload_n rfl rfl ?_
    refine w_iconst (n := (-1)) rfl rfl ?_
    refine w_icmp_eq rfl (fun h => ?_) (fun h => ?_)
    · replace H := H.1 h
      refine w_aload_n rfl rfl ?_
      refine w_aload_n rfl rfl ?_
      obtain ⟨g1, H⟩ := H
      refine c_getr rfl rfl rfl g1 ?_
      refine w_iconst (n := 0) rfl rfl ?_
      obtain ⟨g2, H⟩ := H
      obtain ⟨g3, H⟩ := H
      refine c_aald (t := 3) rfl ⟨g2, by decide, by decide⟩ g3 ?_
      refine w_iload rfl rfl ?_
      refine w_iload_n rfl rfl ?_
      obtain ⟨g4, H⟩ := H
      refine c_virt (p := a0) (as := [vr (aR s (fR s a1 3) 0), vi (-1), vi a3]) (r := []) rfl rfl rfl rfl rfl rfl g4 (wc_mono H (Nat.le_refl _) ?_)
      rintro _ s5 ⟨r6, rfl, H⟩
      show wk iv L h0 (d + 1) 171 72 [lr a0, lr a1, li a2, li a3, li (-1), li (-1)] [vi r6] s5 (qi F)
      refine w_istore rfl rfl ?_
      refine w_aload_n rfl rfl ?_
      refine w_aload_n rfl rfl ?_
      obtain ⟨g7, H⟩ := H
      refine c_getr rfl rfl rfl g7 ?_
      refine w_iconst (n := 1) rfl rfl ?_
      obtain ⟨g8, H⟩ := H
      obtain ⟨g9, H⟩ := H
      refine c_aald (t := 3) rfl ⟨g8, by decide, by decide⟩ g9 ?_
      refine w_iload rfl rfl ?_
      refine w_iload_n rfl rfl ?_
      obtain ⟨g10, H⟩ := H
      refine c_virt (p := a0) (as := [vr (aR s5 (fR s5 a1 3) 1), vi (-1), vi a3]) (r := []) rfl rfl rfl rfl rfl rfl g10 (wc_mono H (Nat.le_refl _) ?_)
      rintro _ s11 ⟨r12, rfl, H⟩
      show wk iv L h0 (d + 1) 171 87 [lr a0, lr a1, li a2, li a3, li (-1), li (-1), li r6] [vi r12] s11 (qi F)
      refine w_istore rfl rfl ?_
      refine w_aload_n rfl rfl ?_
      obtain ⟨g13, H⟩ := H
      refine c_getr rfl rfl rfl g13 ?_
      refine w_iconst (n := 4) rfl rfl ?_
      refine w_iload rfl rfl ?_
      refine w_iload rfl rfl ?_
      obtain ⟨g14, H⟩ := H
      refine c_virt (p := (fR s11 a0 0)) (as := [vi 4, vi r6, vi r12]) (r := []) rfl rfl rfl rfl rfl rfl g14 (wc_mono H (Nat.le_refl _) ?_)
      rintro _ s15 ⟨r16, rfl, H⟩
      show wk iv L h0 (d + 1) 171 101 [lr a0, lr a1, li a2, li a3, li (-1), li (-1), li r6, li r12] [vi r16] s15 (qi F)
      exact w_iret rfl rfl ⟨_, rfl, H⟩
    · replace H := H.2 h
      refine w_aload_n rfl rfl ?_
      obtain ⟨g17, H⟩ := H
      refine c_getr rfl rfl rfl g17 ?_
      obtain ⟨g18, H⟩ := H
      refine c_getr rfl rfl rfl g18 ?_
      refine w_iload_n rfl rfl ?_
      obtain ⟨g19, H⟩ := H
      obtain ⟨g20, H⟩ := H
      refine c_ald rfl g19 g20 ?_
      refine w_iconst (n := 4) rfl rfl ?_
      refine w_icmp_ne rfl (fun h => ?_) (fun h => ?_)
      · replace H := H.1 h
        refine w_aload_n rfl rfl ?_
        refine w_aload_n rfl rfl ?_
        obtain ⟨g21, H⟩ := H
        refine c_getr rfl rfl rfl g21 ?_
        refine w_iconst (n := 0) rfl rfl ?_
        obtain ⟨g22, H⟩ := H
        obtain ⟨g23, H⟩ := H
        refine c_aald (t := 3) rfl ⟨g22, by decide, by decide⟩ g23 ?_
        refine w_iload rfl rfl ?_
        refine w_iload_n rfl rfl ?_
        refine c_virt (p := a0) (as := [vr (aR s (fR s a1 3) 0), vi (-1), vi a3]) (r := []) rfl rfl rfl rfl rfl rfl g17 (wc_mono H (Nat.le_refl _) ?_)
        rintro _ s24 ⟨r25, rfl, H⟩
        show wk iv L h0 (d + 1) 171 72 [lr a0, lr a1, li a2, li a3, li (-1), li (-1)] [vi r25] s24 (qi F)
        refine w_istore rfl rfl ?_
        refine w_aload_n rfl rfl ?_
        refine w_aload_n rfl rfl ?_
        obtain ⟨g26, H⟩ := H
        refine c_getr rfl rfl rfl g26 ?_
        refine w_iconst (n := 1) rfl rfl ?_
        obtain ⟨g27, H⟩ := H
        obtain ⟨g28, H⟩ := H
        refine c_aald (t := 3) rfl ⟨g27, by decide, by decide⟩ g28 ?_
        refine w_iload rfl rfl ?_
        refine w_iload_n rfl rfl ?_
        obtain ⟨g29, H⟩ := H
        refine c_virt (p := a0) (as := [vr (aR s24 (fR s24 a1 3) 1), vi (-1), vi a3]) (r := []) rfl rfl rfl rfl rfl rfl g29 (wc_mono H (Nat.le_refl _) ?_)
        rintro _ s30 ⟨r31, rfl, H⟩
        show wk iv L h0 (d + 1) 171 87 [lr a0, lr a1, li a2, li a3, li (-1), li (-1), li r25] [vi r31] s30 (qi F)
        refine w_istore rfl rfl ?_
        refine w_aload_n rfl rfl ?_
        obtain ⟨g32, H⟩ := H
        refine c_getr rfl rfl rfl g32 ?_
        refine w_iconst (n := 4) rfl rfl ?_
        refine w_iload rfl rfl ?_
        refine w_iload rfl rfl ?_
        obtain ⟨g33, H⟩ := H
        refine c_virt (p := (fR s30 a0 0)) (as := [vi 4, vi r25, vi r31]) (r := []) rfl rfl rfl rfl rfl rfl g33 (wc_mono H (Nat.le_refl _) ?_)
        rintro _ s34 ⟨r35, rfl, H⟩
        show wk iv L h0 (d + 1) 171 101 [lr a0, lr a1, li a2, li a3, li (-1), li (-1), li r25, li r31] [vi r35] s34 (qi F)
        exact w_iret rfl rfl ⟨_, rfl, H⟩
      · replace H := H.2 h
        refine w_aload_n rfl rfl ?_
        refine c_getr rfl rfl rfl g17 ?_
        refine c_getr rfl rfl rfl g18 ?_
        refine w_iload_n rfl rfl ?_
        obtain ⟨g36, H⟩ := H
        obtain ⟨g37, H⟩ := H
        refine c_ald rfl g36 g37 ?_
        refine w_istore rfl rfl ?_
        refine w_aload_n rfl rfl ?_
        refine c_getr rfl rfl rfl g17 ?_
        refine c_getr rfl rfl rfl g18 ?_
        refine w_iload_n rfl rfl ?_
        obtain ⟨g38, H⟩ := H
        obtain ⟨g39, H⟩ := H
        refine c_ald rfl g38 g39 ?_
        refine w_istore rfl rfl ?_
        refine w_aload_n rfl rfl ?_
        refine w_aload_n rfl rfl ?_
        obtain ⟨g40, H⟩ := H
        refine c_getr rfl rfl rfl g40 ?_
        refine w_iconst (n := 0) rfl rfl ?_
        obtain ⟨g41, H⟩ := H
        obtain ⟨g42, H⟩ := H
        refine c_aald (t := 3) rfl ⟨g41, by decide, by decide⟩ g42 ?_
        refine w_iload rfl rfl ?_
        refine w_iload_n rfl rfl ?_
        refine c_virt (p := a0) (as := [vr (aR s (fR s a1 3) 0), vi (aI s (fR s (fR s a0 0) 1) a2), vi a3]) (r := []) rfl rfl rfl rfl rfl rfl g17 (wc_mono H (Nat.le_refl _) ?_)
        rintro _ s43 ⟨r44, rfl, H⟩
        show wk iv L h0 (d + 1) 171 72 [lr a0, lr a1, li a2, li a3, li (aI s (fR s (fR s a0 0) 1) a2), li (aI s (fR s (fR s a0 0) 2) a2)] [vi r44] s43 (qi F)
        refine w_istore rfl rfl ?_
        refine w_aload_n rfl rfl ?_
        refine w_aload_n rfl rfl ?_
        obtain ⟨g45, H⟩ := H
        refine c_getr rfl rfl rfl g45 ?_
        refine w_iconst (n := 1) rfl rfl ?_
        obtain ⟨g46, H⟩ := H
        obtain ⟨g47, H⟩ := H
        refine c_aald (t := 3) rfl ⟨g46, by decide, by decide⟩ g47 ?_
        refine w_iload rfl rfl ?_
        refine w_iload_n rfl rfl ?_
        obtain ⟨g48, H⟩ := H
        refine c_virt (p := a0) (as := [vr (aR s43 (fR s43 a1 3) 1), vi (aI s (fR s (fR s a0 0) 2) a2), vi a3]) (r := []) rfl rfl rfl rfl rfl rfl g48 (wc_mono H (Nat.le_refl _) ?_)
        rintro _ s49 ⟨r50, rfl, H⟩
        show wk iv L h0 (d + 1) 171 87 [lr a0, lr a1, li a2, li a3, li (aI s (fR s (fR s a0 0) 1) a2), li (aI s (fR s (fR s a0 0) 2) a2), li r44] [vi r50] s49 (qi F)
        refine w_istore rfl rfl ?_
        refine w_aload_n rfl rfl ?_
        obtain ⟨g51, H⟩ := H
        refine c_getr rfl rfl rfl g51 ?_
        refine w_iconst (n := 4) rfl rfl ?_
        refine w_iload rfl rfl ?_
        refine w_iload rfl rfl ?_
        obtain ⟨g52, H⟩ := H
        refine c_virt (p := (fR s49 a0 0)) (as := [vi 4, vi r44, vi r50]) (r := []) rfl rfl rfl rfl rfl rfl g52 (wc_mono H (Nat.le_refl _) ?_)
        rintro _ s53 ⟨r54, rfl, H⟩
        show wk iv L h0 (d + 1) 171 101 [lr a0, lr a1, li a2, li a3, li (aI s (fR s (fR s a0 0) 1) a2), li (aI s (fR s (fR s a0 0) 2) a2), li r44, li r50] [vi r54] s53 (qi F)
        exact w_iret rfl rfl ⟨_, rfl, H⟩
  · replace H := H.2 h
    refine w_iconst (n := 0) rfl rfl ?_
    refine w_istore rfl rfl ?_
    refine w_iconst (n := 0) rfl rfl ?_
    refine w_istore rfl rfl ?_
    refine w_goto rfl ?_
    refine w_aload_n rfl rfl ?_
    refine w_aload_n rfl rfl ?_
    obtain ⟨g55, H⟩ := H
    refine c_getr rfl rfl rfl g55 ?_
    refine w_iconst (n := 0) rfl rfl ?_
    obtain ⟨g56, H⟩ := H
    obtain ⟨g57, H⟩ := H
    refine c_aald (t := 3) rfl ⟨g56, by decide, by decide⟩ g57 ?_
    refine w_iload rfl rfl ?_
    refine w_iload_n rfl rfl ?_
    obtain ⟨g58, H⟩ := H
    refine c_virt (p := a0) (as := [vr (aR s (fR s a1 3) 0), vi 0, vi a3]) (r := []) rfl rfl rfl rfl rfl rfl g58 (wc_mono H (Nat.le_refl _) ?_)
    rintro _ s59 ⟨r60, rfl, H⟩
    show wk iv L h0 (d + 1) 171 72 [lr a0, lr a1, li a2, li a3, li 0, li 0] [vi r60] s59 (qi F)
    refine w_istore rfl rfl ?_
    refine w_aload_n rfl rfl ?_
    refine w_aload_n rfl rfl ?_
    obtain ⟨g61, H⟩ := H
    refine c_getr rfl rfl rfl g61 ?_
    refine w_iconst (n := 1) rfl rfl ?_
    obtain ⟨g62, H⟩ := H
    obtain ⟨g63, H⟩ := H
    refine c_aald (t := 3) rfl ⟨g62, by decide, by decide⟩ g63 ?_
    refine w_iload rfl rfl ?_
    refine w_iload_n rfl rfl ?_
    obtain ⟨g64, H⟩ := H
    refine c_virt (p := a0) (as := [vr (aR s59 (fR s59 a1 3) 1), vi 0, vi a3]) (r := []) rfl rfl rfl rfl rfl rfl g64 (wc_mono H (Nat.le_refl _) ?_)
    rintro _ s65 ⟨r66, rfl, H⟩
    show wk iv L h0 (d + 1) 171 87 [lr a0, lr a1, li a2, li a3, li 0, li 0, li r60] [vi r66] s65 (qi F)
    refine w_istore rfl rfl ?_
    refine w_aload_n rfl rfl ?_
    obtain ⟨g67, H⟩ := H
    refine c_getr rfl rfl rfl g67 ?_
    refine w_iconst (n := 4) rfl rfl ?_
    refine w_iload rfl rfl ?_
    refine w_iload rfl rfl ?_
    obtain ⟨g68, H⟩ := H
    refine c_virt (p := (fR s65 a0 0)) (as := [vi 4, vi r60, vi r66]) (r := []) rfl rfl rfl rfl rfl rfl g68 (wc_mono H (Nat.le_refl _) ?_)
    rintro _ s69 ⟨r70, rfl, H⟩
    show wk iv L h0 (d + 1) 171 101 [lr a0, lr a1, li a2, li a3, li 0, li 0, li r60, li r66] [vi r70] s69 (qi F)
    exact w_iret rfl rfl ⟨_, rfl, H⟩

/-- HoleDesk$Judge.halfMakes(LHoleDesk$Node;I)I -/
theorem C172 {iv : List (Int × Int)} {L : Nat} {h0 : MH} {d : Nat} {s : SC} {a0 : Nat} {a1 : Nat} {a2 : Int} {F : Int → SC → Prop} (H : (kl s a1 = 5) ∧ (kl s (fR s a1 3) = 103) ∧ ((0 : Int) ≤ 0 ∧ 0 < le s (fR s a1 3)) ∧ (kl s a0 = 3) ∧ ck iv L h0 d 165 [vr a0, vr (aR s (fR s a1 3) 0), vi (-1), vi a2] s (qi fun r6 s5 => (kl s5 a0 = 3) ∧ (kl s5 (fR s5 a0 0) = 4) ∧ (kl s5 (fR s5 (fR s5 a0 0) 0) = 100) ∧ (0 ≤ r6 ∧ r6 < le s5 (fR s5 (fR s5 a0 0) 0)) ∧ ((aI s5 (fR s5 (fR s5 a0 0) 0) r6 ≠ 4 → (kl s5 a1 = 5) ∧ (kl s5 (fR s5 a1 3) = 103) ∧ ((0 : Int) ≤ 0 ∧ 0 < le s5 (fR s5 a1 3)) ∧ (kl s5 (aR s5 (fR s5 a1 3) 0) = 5) ∧ ((fI s5 (aR s5 (fR s5 a1 3) 0) 10 ≠ 0 → F 0 s5) ∧ (fI s5 (aR s5 (fR s5 a1 3) 0) 10 = 0 → ck iv L h0 d 173 [vr a0, vi (fI s5 a1 1), vi r6] s5 (qi fun r16 s15 => (kl s15 (aR s5 (fR s5 a1 3) 0) = 5) ∧ F 0 (uI s15 (aR s5 (fR s5 a1 3) 0) 10 r16))))) ∧ (aI s5 (fR s5 (fR s5 a0 0) 0) r6 = 4 → (kl s5 a1 = 5) ∧ ((fI s5 a1 1 ≠ 13 → (kl s5 (fR s5 (fR s5 a0 0) 2) = 100) ∧ (0 ≤ r6 ∧ r6 < le s5 (fR s5 (fR s5 a0 0) 2)) ∧ F (aI s5 (fR s5 (fR s5 a0 0) 2) r6) s5) ∧ (fI s5 a1 1 = 13 → (kl s5 (fR s5 (fR s5 a0 0) 1) = 100) ∧ (0 ≤ r6 ∧ r6 < le s5 (fR s5 (fR s5 a0 0) 1)) ∧ F (aI s5 (fR s5 (fR s5 a0 0) 1) r6) s5)))))) : ck iv L h0 (d + 1) 172 [vr a0, vr a1, vi a2] s (qi F) := by
  show wk iv L h0 (d + 1) 172 0 [lr a0, lr a1, li a2] [] s (qi F)
  refine w_aload_n rfl rfl ?_
  refine w_aload_n rfl rfl ?_
  obtain ⟨g1, H⟩ := H
  refine c_getr rfl rfl rfl g1 ?_
  refine w_iconst (n := 0) rfl rfl ?_
  obtain ⟨g2, H⟩ := H
  obtain ⟨g3, H⟩ := H
  refine c_aald (t := 3) rfl ⟨g2, by decide, by decide⟩ g3 ?_
  refine w_iconst (n := (-1)) rfl rfl ?_
  refine w_iload_n rfl rfl ?_
  obtain ⟨g4, H⟩ := H
  refine c_virt (p := a0) (as := [vr (aR s (fR s a1 3) 0), vi (-1), vi a2]) (r := []) rfl rfl rfl rfl rfl rfl g4 (wc_mono H (Nat.le_refl _) ?_)
  rintro _ s5 ⟨r6, rfl, H⟩
  show wk iv L h0 (d + 1) 172 12 [lr a0, lr a1, li a2] [vi r6] s5 (qi F)
  refine w_istore_n rfl rfl ?_
  refine w_aload_n rfl rfl ?_
  obtain ⟨g7, H⟩ := H
  refine c_getr rfl rfl rfl g7 ?_
  obtain ⟨g8, H⟩ := H
  refine c_getr rfl rfl rfl g8 ?_
  refine w_iload_n rfl rfl ?_
  obtain ⟨g9, H⟩ := H
  obtain ⟨g10, H⟩ := H
  refine c_ald rfl g9 g10 ?_
  refine w_iconst (n := 4) rfl rfl ?_
  refine w_icmp_ne rfl (fun h => ?_) (fun h => ?_)
  · replace H := H.1 h
    refine w_aload_n rfl rfl ?_
    obtain ⟨g11, H⟩ := H
    refine c_getr rfl rfl rfl g11 ?_
    refine w_iconst (n := 0) rfl rfl ?_
    obtain ⟨g12, H⟩ := H
    obtain ⟨g13, H⟩ := H
    refine c_aald (t := 3) rfl ⟨g12, by decide, by decide⟩ g13 ?_
    obtain ⟨g14, H⟩ := H
    refine c_get rfl rfl rfl g14 ?_
    refine w_if_ne rfl (fun h => ?_) (fun h => ?_)
    · replace H := H.1 h
      refine w_iconst (n := 0) rfl rfl ?_
      exact w_iret rfl rfl ⟨_, rfl, H⟩
    · replace H := H.2 h
      refine w_aload_n rfl rfl ?_
      refine c_getr rfl rfl rfl g11 ?_
      refine w_iconst (n := 0) rfl rfl ?_
      refine c_aald (t := 3) rfl ⟨g12, by decide, by decide⟩ g13 ?_
      refine w_aload_n rfl rfl ?_
      refine w_aload_n rfl rfl ?_
      refine c_get rfl rfl rfl g11 ?_
      refine w_iload_n rfl rfl ?_
      refine c_virt (p := a0) (as := [vi (fI s5 a1 1), vi r6]) (r := [vr (aR s5 (fR s5 a1 3) 0)]) rfl rfl rfl rfl rfl rfl g7 (wc_mono H (Nat.le_refl _) ?_)
      rintro _ s15 ⟨r16, rfl, H⟩
      show wk iv L h0 (d + 1) 172 84 [lr a0, lr a1, li a2, li r6] [vi r16, vr (aR s5 (fR s5 a1 3) 0)] s15 (qi F)
      obtain ⟨g17, H⟩ := H
      refine c_put rfl rfl rfl rfl g17 ?_
      refine w_iconst (n := 0) rfl rfl ?_
      exact w_iret rfl rfl ⟨_, rfl, H⟩
  · replace H := H.2 h
    refine w_aload_n rfl rfl ?_
    obtain ⟨g18, H⟩ := H
    refine c_get rfl rfl rfl g18 ?_
    refine w_bipush (n := 13) rfl rfl rfl ?_
    refine w_icmp_ne rfl (fun h => ?_) (fun h => ?_)
    · replace H := H.1 h
      refine w_aload_n rfl rfl ?_
      refine c_getr rfl rfl rfl g7 ?_
      refine c_getr rfl rfl rfl g8 ?_
      refine w_iload_n rfl rfl ?_
      obtain ⟨g19, H⟩ := H
      obtain ⟨g20, H⟩ := H
      refine c_ald rfl g19 g20 ?_
      exact w_iret rfl rfl ⟨_, rfl, H⟩
    · replace H := H.2 h
      refine w_aload_n rfl rfl ?_
      refine c_getr rfl rfl rfl g7 ?_
      refine c_getr rfl rfl rfl g8 ?_
      refine w_iload_n rfl rfl ?_
      obtain ⟨g21, H⟩ := H
      obtain ⟨g22, H⟩ := H
      refine c_ald rfl g21 g22 ?_
      refine w_goto rfl ?_
      exact w_iret rfl rfl ⟨_, rfl, H⟩

/-- HoleDesk$Judge.reasonBelow(II)I -/
theorem C173 {iv : List (Int × Int)} {L : Nat} {h0 : MH} {d : Nat} {s : SC} {a0 : Nat} {a1 : Int} {a2 : Int} {F : Int → SC → Prop} (H : (kl s a0 = 3) ∧ (kl s (fR s a0 0) = 4) ∧ (kl s (fR s (fR s a0 0) 0) = 100) ∧ (0 ≤ a2 ∧ a2 < le s (fR s (fR s a0 0) 0)) ∧ ((a1 ≠ 9 → ((a1 = 13 → ((aI s (fR s (fR s a0 0) 0) a2 = 4 → F 0 s) ∧ (aI s (fR s (fR s a0 0) 0) a2 ≠ 4 → ((aI s (fR s (fR s a0 0) 0) a2 ≠ 0 → F 3 s) ∧ (aI s (fR s (fR s a0 0) 0) a2 = 0 → F 0 s))))) ∧ (a1 ≠ 13 → ((a1 ≠ 14 → F 0 s) ∧ (a1 = 14 → ((aI s (fR s (fR s a0 0) 0) a2 = 4 → F 0 s) ∧ (aI s (fR s (fR s a0 0) 0) a2 ≠ 4 → ((aI s (fR s (fR s a0 0) 0) a2 ≠ 0 → F 3 s) ∧ (aI s (fR s (fR s a0 0) 0) a2 = 0 → F 0 s))))))))) ∧ (a1 = 9 → ((aI s (fR s (fR s a0 0) 0) a2 = 3 → F 0 s) ∧ (aI s (fR s (fR s a0 0) 0) a2 ≠ 3 → ((aI s (fR s (fR s a0 0) 0) a2 ≠ 0 → F 2 s) ∧ (aI s (fR s (fR s a0 0) 0) a2 = 0 → F 0 s))))))) : ck iv L h0 d 173 [vr a0, vi a1, vi a2] s (qi F) := by
  show wk iv L h0 d 173 0 [lr a0, li a1, li a2] [] s (qi F)
  refine w_aload_n rfl rfl ?_
  obtain ⟨g1, H⟩ := H
  refine c_getr rfl rfl rfl g1 ?_
  obtain ⟨g2, H⟩ := H
  refine c_getr rfl rfl rfl g2 ?_
  refine w_iload_n rfl rfl ?_
  obtain ⟨g3, H⟩ := H
  obtain ⟨g4, H⟩ := H
  refine c_ald rfl g3 g4 ?_
  refine w_istore_n rfl rfl ?_
  refine w_iload_n rfl rfl ?_
  refine w_bipush (n := 9) rfl rfl rfl ?_
  refine w_icmp_ne rfl (fun h => ?_) (fun h => ?_)
  · replace H := H.1 h
    refine w_iload_n rfl rfl ?_
    refine w_bipush (n := 13) rfl rfl rfl ?_
    refine w_icmp_eq rfl (fun h => ?_) (fun h => ?_)
    · replace H := H.1 h
      refine w_iload_n rfl rfl ?_
      refine w_iconst (n := 4) rfl rfl ?_
      refine w_icmp_eq rfl (fun h => ?_) (fun h => ?_)
      · replace H := H.1 h
        refine w_iconst (n := 0) rfl rfl ?_
        refine w_goto rfl ?_
        exact w_iret rfl rfl ⟨_, rfl, H⟩
      · replace H := H.2 h
        refine w_iload_n rfl rfl ?_
        refine w_if_ne rfl (fun h => ?_) (fun h => ?_)
        · replace H := H.1 h
          refine w_iconst (n := 3) rfl rfl ?_
          exact w_iret rfl rfl ⟨_, rfl, H⟩
        · replace H := H.2 h
          refine w_iconst (n := 0) rfl rfl ?_
          refine w_goto rfl ?_
          exact w_iret rfl rfl ⟨_, rfl, H⟩
    · replace H := H.2 h
      refine w_iload_n rfl rfl ?_
      refine w_bipush (n := 14) rfl rfl rfl ?_
      refine w_icmp_ne rfl (fun h => ?_) (fun h => ?_)
      · replace H := H.1 h
        refine w_iconst (n := 0) rfl rfl ?_
        exact w_iret rfl rfl ⟨_, rfl, H⟩
      · replace H := H.2 h
        refine w_iload_n rfl rfl ?_
        refine w_iconst (n := 4) rfl rfl ?_
        refine w_icmp_eq rfl (fun h => ?_) (fun h => ?_)
        · replace H := H.1 h
          refine w_iconst (n := 0) rfl rfl ?_
          refine w_goto rfl ?_
          exact w_iret rfl rfl ⟨_, rfl, H⟩
        · replace H := H.2 h
          refine w_iload_n rfl rfl ?_
          refine w_if_ne rfl (fun h => ?_) (fun h => ?_)
          · replace H := H.1 h
            refine w_iconst (n := 3) rfl rfl ?_
            exact w_iret rfl rfl ⟨_, rfl, H⟩
          · replace H := H.2 h
            refine w_iconst (n := 0) rfl rfl ?_
            refine w_goto rfl ?_
            exact w_iret rfl rfl ⟨_, rfl, H⟩
  · replace H := H.2 h
    refine w_iload_n rfl rfl ?_
    refine w_iconst (n := 3) rfl rfl ?_
    refine w_icmp_eq rfl (fun h => ?_) (fun h => ?_)
    · replace H := H.1 h
      refine w_iconst (n := 0) rfl rfl ?_
      refine w_goto rfl ?_
      exact w_iret rfl rfl ⟨_, rfl, H⟩
    · replace H := H.2 h
      refine w_iload_n rfl rfl ?_
      refine w_if_ne rfl (fun h => ?_) (fun h => ?_)
      · replace H := H.1 h
        refine w_iconst (n := 2) rfl rfl ?_
        exact w_iret rfl rfl ⟨_, rfl, H⟩
      · replace H := H.2 h
        refine w_iconst (n := 0) rfl rfl ?_
        refine w_goto rfl ?_
        exact w_iret rfl rfl ⟨_, rfl, H⟩

/-- HoleDesk$Kinds.<init>()V -/
theorem C174 {iv : List (Int × Int)} {L : Nat} {h0 : MH} {d : Nat} {s : SC} {a0 : Nat} {F : SC → Prop} (H : (a0 ≠ 2) ∧ (353 ≤ nxt s) ∧ (kl (nA s 0 1440) a0 = 4) ∧ (353 ≤ nxt s + 1) ∧ (kl (nA (nA s 0 1440) 0 1440) a0 = 4) ∧ (353 ≤ nxt s + 2) ∧ (kl (nA (nA (nA s 0 1440) 0 1440) 0 1440) a0 = 4) ∧ (353 ≤ nxt s + 3) ∧ (kl (nA (nA (nA (nA s 0 1440) 0 1440) 0 1440) 0 1440) a0 = 4) ∧ wk iv L h0 (d + 1) 174 53 [lr a0, li 0] [] (uI (uI (uR (nA (uR (nA (uR (nA (uR (nA s 0 1440) a0 0 (nxt s)) 0 1440) a0 1 (nxt s + 1)) 0 1440) a0 2 (nxt s + 2)) 0 1440) a0 3 (nxt s + 3)) a0 4 0) a0 5 40) (qv F)) : ck iv L h0 (d + 1) 174 [vr a0] s (qv F) := by
  show wk iv L h0 (d + 1) 174 0 [lr a0] [] s (qv F)
  refine w_aload_n rfl rfl ?_
  obtain ⟨g1, H⟩ := H
  refine c_oinit rfl rfl g1 ?_
  refine w_aload_n rfl rfl ?_
  refine w_sipush (n := 1440) rfl rfl rfl ?_
  obtain ⟨g2, H⟩ := H
  refine c_newa rfl rfl ⟨by decide, by decide⟩ g2 ?_
  show wk iv L h0 (d + 1) 174 10 [lr a0] [vr (nxt s), vr a0] (nA s 0 1440) (qv F)
  obtain ⟨g3, H⟩ := H
  refine c_putr rfl rfl rfl rfl g3 ?_
  refine w_aload_n rfl rfl ?_
  refine w_sipush (n := 1440) rfl rfl rfl ?_
  obtain ⟨g4, H⟩ := H
  refine c_newa rfl rfl ⟨by decide, by decide⟩ g4 ?_
  show wk iv L h0 (d + 1) 174 19 [lr a0] [vr (nxt s + 1), vr a0] (nA (uR (nA s 0 1440) a0 0 (nxt s)) 0 1440) (qv F)
  obtain ⟨g5, H⟩ := H
  refine c_putr rfl rfl rfl rfl g5 ?_
  refine w_aload_n rfl rfl ?_
  refine w_sipush (n := 1440) rfl rfl rfl ?_
  obtain ⟨g6, H⟩ := H
  refine c_newa rfl rfl ⟨by decide, by decide⟩ g6 ?_
  show wk iv L h0 (d + 1) 174 28 [lr a0] [vr (nxt s + 2), vr a0] (nA (uR (nA (uR (nA s 0 1440) a0 0 (nxt s)) 0 1440) a0 1 (nxt s + 1)) 0 1440) (qv F)
  obtain ⟨g7, H⟩ := H
  refine c_putr rfl rfl rfl rfl g7 ?_
  refine w_aload_n rfl rfl ?_
  refine w_sipush (n := 1440) rfl rfl rfl ?_
  obtain ⟨g8, H⟩ := H
  refine c_newa rfl rfl ⟨by decide, by decide⟩ g8 ?_
  show wk iv L h0 (d + 1) 174 37 [lr a0] [vr (nxt s + 3), vr a0] (nA (uR (nA (uR (nA (uR (nA s 0 1440) a0 0 (nxt s)) 0 1440) a0 1 (nxt s + 1)) 0 1440) a0 2 (nxt s + 2)) 0 1440) (qv F)
  obtain ⟨g9, H⟩ := H
  refine c_putr rfl rfl rfl rfl g9 ?_
  refine w_aload_n rfl rfl ?_
  refine w_iconst (n := 0) rfl rfl ?_
  refine c_put rfl rfl rfl rfl g9 ?_
  refine w_aload_n rfl rfl ?_
  refine w_bipush (n := 40) rfl rfl rfl ?_
  refine c_put rfl rfl rfl rfl g9 ?_
  refine w_iconst (n := 0) rfl rfl ?_
  refine w_istore_n rfl rfl ?_
  exact wp_ls (sl_s (sl_s (sl_0))) H

/-- HoleDesk$Kinds.<init>()V at 53 -/
theorem C174_53 {iv : List (Int × Int)} {L : Nat} {h0 : MH} {d : Nat} {s : SC} {l0 : Nat} {l1 : Int} {F : SC → Prop} (H : ((2 < l1 → (kl s l0 = 4) ∧ F (uI s l0 4 3)) ∧ (l1 ≤ 2 → (kl s l0 = 4) ∧ ck iv L h0 d 175 [vr l0, vi l1, vi l1, vi (-9), vi (-9), vi 1] s (qv fun s3 => (-2147483648 ≤ l1 + 1 ∧ l1 + 1 ≤ 2147483647) ∧ wk iv L h0 (d + 1) 174 53 [lr l0, li (l1 + 1)] [] s3 (qv F))))) : wk iv L h0 (d + 1) 174 53 [lr l0, li l1] [] s (qv F) := by
  refine w_iload_n rfl rfl ?_
  refine w_iconst (n := 2) rfl rfl ?_
  refine w_icmp_gt rfl (fun h => ?_) (fun h => ?_)
  · replace H := H.1 h
    refine w_aload_n rfl rfl ?_
    refine w_iconst (n := 3) rfl rfl ?_
    obtain ⟨g1, H⟩ := H
    refine c_put rfl rfl rfl rfl g1 ?_
    exact w_ret rfl rfl ⟨rfl, H⟩
  · replace H := H.2 h
    refine w_aload_n rfl rfl ?_
    refine w_iload_n rfl rfl ?_
    refine w_iload_n rfl rfl ?_
    refine w_bipush (n := (-9)) rfl rfl rfl ?_
    refine w_bipush (n := (-9)) rfl rfl rfl ?_
    refine w_iconst (n := 1) rfl rfl ?_
    obtain ⟨g2, H⟩ := H
    refine c_virt (p := l0) (as := [vi l1, vi l1, vi (-9), vi (-9), vi 1]) (r := []) rfl rfl rfl rfl rfl rfl g2 (wc_mono H (Nat.le_refl _) ?_)
    rintro _ s3 ⟨rfl, H⟩
    show wk iv L h0 (d + 1) 174 69 [lr l0, li l1] [] s3 (qv F)
    obtain ⟨g4, H⟩ := H
    refine w_iinc rfl rfl rfl g4 ?_
    refine w_goto rfl ?_
    exact wp_ls (sl_s (sl_s (sl_0))) H

/-- HoleDesk$Kinds.setRow(IIIII)V -/
theorem C175 {iv : List (Int × Int)} {L : Nat} {h0 : MH} {d : Nat} {s : SC} {a0 : Nat} {a1 : Int} {a2 : Int} {a3 : Int} {a4 : Int} {a5 : Int} {F : SC → Prop} (H : (kl s a0 = 4) ∧ (kl s (fR s a0 0) = 100) ∧ (0 ≤ a1 ∧ a1 < le s (fR s a0 0)) ∧ (kl s (fR s a0 1) = 100) ∧ (0 ≤ a1 ∧ a1 < le s (fR s a0 1)) ∧ (kl s (fR s a0 2) = 100) ∧ (0 ≤ a1 ∧ a1 < le s (fR s a0 2)) ∧ (kl s (fR s a0 3) = 100) ∧ (0 ≤ a1 ∧ a1 < le s (fR s a0 3)) ∧ F (uA (uA (uA (uA s (fR s a0 0) a1 a2) (fR s a0 1) a1 a3) (fR s a0 2) a1 a4) (fR s a0 3) a1 a5)) : ck iv L h0 d 175 [vr a0, vi a1, vi a2, vi a3, vi a4, vi a5] s (qv F) := by
  show wk iv L h0 d 175 0 [lr a0, li a1, li a2, li a3, li a4, li a5] [] s (qv F)
  refine w_aload_n rfl rfl ?_
  obtain ⟨g1, H⟩ := H
  refine c_getr rfl rfl rfl g1 ?_
  refine w_iload_n rfl rfl ?_
  refine w_iload_n rfl rfl ?_
  obtain ⟨g2, H⟩ := H
  obtain ⟨g3, H⟩ := H
  refine c_ast rfl g2 g3 ?_
  refine w_aload_n rfl rfl ?_
  refine c_getr rfl rfl rfl g1 ?_
  show wk iv L h0 d 175 11 [lr a0, li a1, li a2, li a3, li a4, li a5] [vr (fR s a0 1)] (uA s (fR s a0 0) a1 a2) (qv F)
  refine w_iload_n rfl rfl ?_
  refine w_iload_n rfl rfl ?_
  obtain ⟨g4, H⟩ := H
  obtain ⟨g5, H⟩ := H
  refine c_ast rfl g4 g5 ?_
  refine w_aload_n rfl rfl ?_
  refine c_getr rfl rfl rfl g1 ?_
  show wk iv L h0 d 175 18 [lr a0, li a1, li a2, li a3, li a4, li a5] [vr (fR s a0 2)] (uA (uA s (fR s a0 0) a1 a2) (fR s a0 1) a1 a3) (qv F)
  refine w_iload_n rfl rfl ?_
  refine w_iload rfl rfl ?_
  obtain ⟨g6, H⟩ := H
  obtain ⟨g7, H⟩ := H
  refine c_ast rfl g6 g7 ?_
  refine w_aload_n rfl rfl ?_
  refine c_getr rfl rfl rfl g1 ?_
  show wk iv L h0 d 175 26 [lr a0, li a1, li a2, li a3, li a4, li a5] [vr (fR s a0 3)] (uA (uA (uA s (fR s a0 0) a1 a2) (fR s a0 1) a1 a3) (fR s a0 2) a1 a4) (qv F)
  refine w_iload_n rfl rfl ?_
  refine w_iload rfl rfl ?_
  obtain ⟨g8, H⟩ := H
  obtain ⟨g9, H⟩ := H
  refine c_ast rfl g8 g9 ?_
  exact w_ret rfl rfl ⟨rfl, H⟩

/-- HoleDesk$Kinds.has(I)Z -/
theorem C176 {iv : List (Int × Int)} {L : Nat} {h0 : MH} {d : Nat} {s : SC} {a0 : Nat} {a1 : Int} {F : Int → SC → Prop} (H : ((a1 < 0 → F 0 s) ∧ (0 ≤ a1 → (kl s a0 = 4) ∧ ((fI s a0 4 ≤ a1 → F 0 s) ∧ (a1 < fI s a0 4 → F 1 s))))) : ck iv L h0 d 176 [vr a0, vi a1] s (qi F) := by
  show wk iv L h0 d 176 0 [lr a0, li a1] [] s (qi F)
  refine w_iload_n rfl rfl ?_
  refine w_if_lt rfl (fun h => ?_) (fun h => ?_)
  · replace H := H.1 h
    refine w_iconst (n := 0) rfl rfl ?_
    exact w_iretz rfl rfl (by decide) ⟨_, rfl, H⟩
  · replace H := H.2 h
    refine w_iload_n rfl rfl ?_
    refine w_aload_n rfl rfl ?_
    obtain ⟨g1, H⟩ := H
    refine c_get rfl rfl rfl g1 ?_
    refine w_icmp_ge rfl (fun h => ?_) (fun h => ?_)
    · replace H := H.1 h
      refine w_iconst (n := 0) rfl rfl ?_
      exact w_iretz rfl rfl (by decide) ⟨_, rfl, H⟩
    · replace H := H.2 h
      refine w_iconst (n := 1) rfl rfl ?_
      refine w_goto rfl ?_
      exact w_iretz rfl rfl (by decide) ⟨_, rfl, H⟩

/-- HoleDesk$Kinds.sizeWith(II)I -/
theorem C177 {iv : List (Int × Int)} {L : Nat} {h0 : MH} {d : Nat} {s : SC} {a0 : Nat} {a1 : Int} {a2 : Int} {F : Int → SC → Prop} (H : (kl s a0 = 4) ∧ (kl s (fR s a0 3) = 100) ∧ (0 ≤ a1 ∧ a1 < le s (fR s a0 3)) ∧ (-2147483648 ≤ 1 + (aI s (fR s a0 3) a1) ∧ 1 + (aI s (fR s a0 3) a1) ≤ 2147483647) ∧ (0 ≤ a2 ∧ a2 < le s (fR s a0 3)) ∧ (-2147483648 ≤ (1 + (aI s (fR s a0 3) a1)) + (aI s (fR s a0 3) a2) ∧ (1 + (aI s (fR s a0 3) a1)) + (aI s (fR s a0 3) a2) ≤ 2147483647) ∧ F ((1 + (aI s (fR s a0 3) a1)) + (aI s (fR s a0 3) a2)) s) : ck iv L h0 d 177 [vr a0, vi a1, vi a2] s (qi F) := by
  show wk iv L h0 d 177 0 [lr a0, li a1, li a2] [] s (qi F)
  refine w_iconst (n := 1) rfl rfl ?_
  refine w_aload_n rfl rfl ?_
  obtain ⟨g1, H⟩ := H
  refine c_getr rfl rfl rfl g1 ?_
  refine w_iload_n rfl rfl ?_
  obtain ⟨g2, H⟩ := H
  obtain ⟨g3, H⟩ := H
  refine c_ald rfl g2 g3 ?_
  obtain ⟨g4, H⟩ := H
  refine w_iadd rfl g4 ?_
  refine w_aload_n rfl rfl ?_
  refine c_getr rfl rfl rfl g1 ?_
  refine w_iload_n rfl rfl ?_
  obtain ⟨g5, H⟩ := H
  refine c_ald rfl g2 g5 ?_
  obtain ⟨g6, H⟩ := H
  refine w_iadd rfl g6 ?_
  exact w_iret rfl rfl ⟨_, rfl, H⟩

/-- HoleDesk$Kinds.numberOf(III)I -/
theorem C178 {iv : List (Int × Int)} {L : Nat} {h0 : MH} {d : Nat} {s : SC} {a0 : Nat} {a1 : Int} {a2 : Int} {a3 : Int} {F : Int → SC → Prop} (H : wk iv L h0 d 178 3 [lr a0, li a1, li a2, li a3, li 3] [] s (qi F)) : ck iv L h0 d 178 [vr a0, vi a1, vi a2, vi a3] s (qi F) := by
  show wk iv L h0 d 178 0 [lr a0, li a1, li a2, li a3] [] s (qi F)
  refine w_iconst (n := 3) rfl rfl ?_
  refine w_istore rfl rfl ?_
  exact wp_ls (sl_s (sl_s (sl_s (sl_s (sl_s (sl_0)))))) H

/-- HoleDesk$Kinds.numberOf(III)I at 3 -/
theorem C178_3 {iv : List (Int × Int)} {L : Nat} {h0 : MH} {d : Nat} {s : SC} {l0 : Nat} {l1 : Int} {l2 : Int} {l3 : Int} {l4 : Int} {F : Int → SC → Prop} (H : (kl s l0 = 4) ∧ ((fI s l0 4 ≤ l4 → F (-1) s) ∧ (l4 < fI s l0 4 → (kl s (fR s l0 0) = 100) ∧ (0 ≤ l4 ∧ l4 < le s (fR s l0 0)) ∧ ((aI s (fR s l0 0) l4 ≠ l1 → (-2147483648 ≤ l4 + 1 ∧ l4 + 1 ≤ 2147483647) ∧ wk iv L h0 d 178 3 [lr l0, li l1, li l2, li l3, li (l4 + 1)] [] s (qi F)) ∧ (aI s (fR s l0 0) l4 = l1 → (kl s (fR s l0 1) = 100) ∧ (0 ≤ l4 ∧ l4 < le s (fR s l0 1)) ∧ ((aI s (fR s l0 1) l4 ≠ l2 → (-2147483648 ≤ l4 + 1 ∧ l4 + 1 ≤ 2147483647) ∧ wk iv L h0 d 178 3 [lr l0, li l1, li l2, li l3, li (l4 + 1)] [] s (qi F)) ∧ (aI s (fR s l0 1) l4 = l2 → (kl s (fR s l0 2) = 100) ∧ (0 ≤ l4 ∧ l4 < le s (fR s l0 2)) ∧ ((aI s (fR s l0 2) l4 ≠ l3 → (-2147483648 ≤ l4 + 1 ∧ l4 + 1 ≤ 2147483647) ∧ wk iv L h0 d 178 3 [lr l0, li l1, li l2, li l3, li (l4 + 1)] [] s (qi F)) ∧ (aI s (fR s l0 2) l4 = l3 → F l4 s))))))))) : wk iv L h0 d 178 3 [lr l0, li l1, li l2, li l3, li l4] [] s (qi F) := by
  refine w_iload rfl rfl ?_
  refine w_aload_n rfl rfl ?_
  obtain ⟨g1, H⟩ := H
  refine c_get rfl rfl rfl g1 ?_
  refine w_icmp_ge rfl (fun h => ?_) (fun h => ?_)
  · replace H := H.1 h
    refine w_iconst (n := (-1)) rfl rfl ?_
    exact w_iret rfl rfl ⟨_, rfl, H⟩
  · replace H := H.2 h
    refine w_aload_n rfl rfl ?_
    refine c_getr rfl rfl rfl g1 ?_
    refine w_iload rfl rfl ?_
    obtain ⟨g2, H⟩ := H
    obtain ⟨g3, H⟩ := H
    refine c_ald rfl g2 g3 ?_
    refine w_iload_n rfl rfl ?_
    refine w_icmp_ne rfl (fun h => ?_) (fun h => ?_)
    · replace H := H.1 h
      obtain ⟨g4, H⟩ := H
      refine w_iinc rfl rfl rfl g4 ?_
      refine w_goto rfl ?_
      exact wp_ls (sl_s (sl_s (sl_s (sl_s (sl_s (sl_0)))))) H
    · replace H := H.2 h
      refine w_aload_n rfl rfl ?_
      refine c_getr rfl rfl rfl g1 ?_
      refine w_iload rfl rfl ?_
      obtain ⟨g5, H⟩ := H
      obtain ⟨g6, H⟩ := H
      refine c_ald rfl g5 g6 ?_
      refine w_iload_n rfl rfl ?_
      refine w_icmp_ne rfl (fun h => ?_) (fun h => ?_)
      · replace H := H.1 h
        obtain ⟨g7, H⟩ := H
        refine w_iinc rfl rfl rfl g7 ?_
        refine w_goto rfl ?_
        exact wp_ls (sl_s (sl_s (sl_s (sl_s (sl_s (sl_0)))))) H
      · replace H := H.2 h
        refine w_aload_n rfl rfl ?_
        refine c_getr rfl rfl rfl g1 ?_
        refine w_iload rfl rfl ?_
        obtain ⟨g8, H⟩ := H
        obtain ⟨g9, H⟩ := H
        refine c_ald rfl g8 g9 ?_
        refine w_iload_n rfl rfl ?_
        refine w_icmp_ne rfl (fun h => ?_) (fun h => ?_)
        · replace H := H.1 h
          obtain ⟨g10, H⟩ := H
          refine w_iinc rfl rfl rfl g10 ?_
          refine w_goto rfl ?_
          exact wp_ls (sl_s (sl_s (sl_s (sl_s (sl_s (sl_0)))))) H
        · replace H := H.2 h
          refine w_iload rfl rfl ?_
          exact w_iret rfl rfl ⟨_, rfl, H⟩

/-- HoleDesk$Kinds.tell(III)I -/
theorem C179 {iv : List (Int × Int)} {L : Nat} {h0 : MH} {d : Nat} {s : SC} {a0 : Nat} {a1 : Int} {a2 : Int} {a3 : Int} {F : Int → SC → Prop} (H : (kl s a0 = 4) ∧ ck iv L h0 d 177 [vr a0, vi a2, vi a3] s (qi fun r3 s2 => (kl s2 a0 = 4) ∧ ck iv L h0 d 175 [vr a0, vi (fI s a0 4), vi a1, vi a2, vi a3, vi r3] s2 (qv fun s5 => (kl s5 a0 = 4) ∧ (-2147483648 ≤ (fI s5 a0 4) + 1 ∧ (fI s5 a0 4) + 1 ≤ 2147483647) ∧ F (fI s5 a0 4) (uI s5 a0 4 ((fI s5 a0 4) + 1))))) : ck iv L h0 (d + 1) 179 [vr a0, vi a1, vi a2, vi a3] s (qi F) := by
  show wk iv L h0 (d + 1) 179 0 [lr a0, li a1, li a2, li a3] [] s (qi F)
  refine w_aload_n rfl rfl ?_
  refine w_aload_n rfl rfl ?_
  obtain ⟨g1, H⟩ := H
  refine c_get rfl rfl rfl g1 ?_
  refine w_iload_n rfl rfl ?_
  refine w_iload_n rfl rfl ?_
  refine w_iload_n rfl rfl ?_
  refine w_aload_n rfl rfl ?_
  refine w_iload_n rfl rfl ?_
  refine w_iload_n rfl rfl ?_
  refine c_virt (p := a0) (as := [vi a2, vi a3]) (r := [vi a3, vi a2, vi a1, vi (fI s a0 4), vr a0]) rfl rfl rfl rfl rfl rfl g1 (wc_mono H (Nat.le_refl _) ?_)
  rintro _ s2 ⟨r3, rfl, H⟩
  show wk iv L h0 (d + 1) 179 14 [lr a0, li a1, li a2, li a3] [vi r3, vi a3, vi a2, vi a1, vi (fI s a0 4), vr a0] s2 (qi F)
  obtain ⟨g4, H⟩ := H
  refine c_virt (p := a0) (as := [vi (fI s a0 4), vi a1, vi a2, vi a3, vi r3]) (r := []) rfl rfl rfl rfl rfl rfl g4 (wc_mono H (Nat.le_refl _) ?_)
  rintro _ s5 ⟨rfl, H⟩
  show wk iv L h0 (d + 1) 179 17 [lr a0, li a1, li a2, li a3] [] s5 (qi F)
  refine w_aload_n rfl rfl ?_
  refine w_dup rfl rfl ?_
  obtain ⟨g6, H⟩ := H
  refine c_get rfl rfl rfl g6 ?_
  refine w_dup_x1 rfl rfl rfl ?_
  refine w_iconst (n := 1) rfl rfl ?_
  obtain ⟨g7, H⟩ := H
  refine w_iadd rfl g7 ?_
  refine c_put rfl rfl rfl rfl g6 ?_
  exact w_iret rfl rfl ⟨_, rfl, H⟩

/-- HoleDesk$Kinds.forgetMade()V -/
theorem C180 {iv : List (Int × Int)} {L : Nat} {h0 : MH} {d : Nat} {s : SC} {a0 : Nat} {F : SC → Prop} (H : (kl s a0 = 4) ∧ F (uI s a0 5 40)) : ck iv L h0 d 180 [vr a0] s (qv F) := by
  show wk iv L h0 d 180 0 [lr a0] [] s (qv F)
  refine w_aload_n rfl rfl ?_
  refine w_bipush (n := 40) rfl rfl rfl ?_
  obtain ⟨g1, H⟩ := H
  refine c_put rfl rfl rfl rfl g1 ?_
  exact w_ret rfl rfl ⟨rfl, H⟩

/-- HoleDesk$Kinds.make(III)I -/
theorem C181 {iv : List (Int × Int)} {L : Nat} {h0 : MH} {d : Nat} {s : SC} {a0 : Nat} {a1 : Int} {a2 : Int} {a3 : Int} {F : Int → SC → Prop} (H : (kl s a0 = 4) ∧ ck iv L h0 d 177 [vr a0, vi a2, vi a3] s (qi fun r3 s2 => ((40 < r3 → F 0 s2) ∧ (r3 ≤ 40 → (kl s2 a0 = 4) ∧ ((fI s2 a0 5 < 1440 → ck iv L h0 d 175 [vr a0, vi (fI s2 a0 5), vi a1, vi a2, vi a3, vi r3] s2 (qv fun s5 => (kl s5 a0 = 4) ∧ (-2147483648 ≤ (fI s5 a0 5) + 1 ∧ (fI s5 a0 5) + 1 ≤ 2147483647) ∧ F (fI s5 a0 5) (uI s5 a0 5 ((fI s5 a0 5) + 1)))) ∧ (1440 ≤ fI s2 a0 5 → F 0 s2)))))) : ck iv L h0 (d + 1) 181 [vr a0, vi a1, vi a2, vi a3] s (qi F) := by
  show wk iv L h0 (d + 1) 181 0 [lr a0, li a1, li a2, li a3] [] s (qi F)
  refine w_aload_n rfl rfl ?_
  refine w_iload_n rfl rfl ?_
  refine w_iload_n rfl rfl ?_
  obtain ⟨g1, H⟩ := H
  refine c_virt (p := a0) (as := [vi a2, vi a3]) (r := []) rfl rfl rfl rfl rfl rfl g1 (wc_mono H (Nat.le_refl _) ?_)
  rintro _ s2 ⟨r3, rfl, H⟩
  show wk iv L h0 (d + 1) 181 6 [lr a0, li a1, li a2, li a3] [vi r3] s2 (qi F)
  refine w_istore rfl rfl ?_
  refine w_iload rfl rfl ?_
  refine w_bipush (n := 40) rfl rfl rfl ?_
  refine w_icmp_gt rfl (fun h => ?_) (fun h => ?_)
  · replace H := H.1 h
    refine w_iconst (n := 0) rfl rfl ?_
    exact w_iret rfl rfl ⟨_, rfl, H⟩
  · replace H := H.2 h
    refine w_aload_n rfl rfl ?_
    obtain ⟨g4, H⟩ := H
    refine c_get rfl rfl rfl g4 ?_
    refine w_sipush (n := 1440) rfl rfl rfl ?_
    refine w_icmp_lt rfl (fun h => ?_) (fun h => ?_)
    · replace H := H.1 h
      refine w_aload_n rfl rfl ?_
      refine w_aload_n rfl rfl ?_
      refine c_get rfl rfl rfl g4 ?_
      refine w_iload_n rfl rfl ?_
      refine w_iload_n rfl rfl ?_
      refine w_iload_n rfl rfl ?_
      refine w_iload rfl rfl ?_
      refine c_virt (p := a0) (as := [vi (fI s2 a0 5), vi a1, vi a2, vi a3, vi r3]) (r := []) rfl rfl rfl rfl rfl rfl g4 (wc_mono H (Nat.le_refl _) ?_)
      rintro _ s5 ⟨rfl, H⟩
      show wk iv L h0 (d + 1) 181 40 [lr a0, li a1, li a2, li a3, li r3] [] s5 (qi F)
      refine w_aload_n rfl rfl ?_
      refine w_dup rfl rfl ?_
      obtain ⟨g6, H⟩ := H
      refine c_get rfl rfl rfl g6 ?_
      refine w_dup_x1 rfl rfl rfl ?_
      refine w_iconst (n := 1) rfl rfl ?_
      obtain ⟨g7, H⟩ := H
      refine w_iadd rfl g7 ?_
      refine c_put rfl rfl rfl rfl g6 ?_
      exact w_iret rfl rfl ⟨_, rfl, H⟩
    · replace H := H.2 h
      refine w_iconst (n := 0) rfl rfl ?_
      exact w_iret rfl rfl ⟨_, rfl, H⟩

/-- HoleDesk$Kinds.doMeet(II)Z -/
theorem C182 {iv : List (Int × Int)} {L : Nat} {h0 : MH} {d : Nat} {s : SC} {a0 : Nat} {a1 : Int} {a2 : Int} {F : Int → SC → Prop} (H : (kl s a0 = 4) ∧ ck iv L h0 d 183 [vr a0, vi a1, vi a2, vi 0] s (qi fun r3 s2 => (r3 = 0 ∨ r3 = 1) ∧ F r3 s2)) : ck iv L h0 (d + 1) 182 [vr a0, vi a1, vi a2] s (qi F) := by
  show wk iv L h0 (d + 1) 182 0 [lr a0, li a1, li a2] [] s (qi F)
  refine w_aload_n rfl rfl ?_
  refine w_iload_n rfl rfl ?_
  refine w_iload_n rfl rfl ?_
  refine w_iconst (n := 0) rfl rfl ?_
  obtain ⟨g1, H⟩ := H
  refine c_virt (p := a0) (as := [vi a1, vi a2, vi 0]) (r := []) rfl rfl rfl rfl rfl rfl g1 (wc_mono H (Nat.le_refl _) ?_)
  rintro _ s2 ⟨r3, rfl, H⟩
  show wk iv L h0 (d + 1) 182 7 [lr a0, li a1, li a2] [vi r3] s2 (qi F)
  obtain ⟨g4, H⟩ := H
  exact w_iretz rfl rfl g4 ⟨_, rfl, H⟩
