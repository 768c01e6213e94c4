/-! Working by the desk: values made, wholes reckoned, an act. -/
section
variable {iv : List (Int × Int)} {L : Nat} {h0 : MH} {A A' : Int → Nat} {P : Nat → Prop} {c c0 e f : SC} {σ s s' w : SM} {t : Term} {d p a g x y n : Nat} {b most st kv ks kv' ks' k0 k1 k q : Int} {ys : List (Nat × Nat)} {rs : List Nat} {R : RS} {X Y E : Term} {l : List (Int × Nat)}
theorem ck_mono {M d d' : Nat} {as : List VV} {F F' : Nat → SC → Prop} (h : ck iv L h0 d M as c (qa F)) (hd : d ≤ d') (hq : ∀ z s', F z s' → F' z s') : ck iv L h0 d' M as c (qa F') := wc_mono h hd (fun _ _ ⟨z, e, q⟩ => ⟨z, e, hq _ _ q⟩)
theorem dv_int {N : Int} (hw : VNW c e p a 0 N 2 2 2 2 (vfl 0)) (hN : inR N) : DV A e (YNG e p) (.int (Int32.ofInt N)) a [] := by
  obtain ⟨-, ⟨-, b1, -, -⟩, b2, b3, -⟩ := hw
  exact ⟨⟨⟨b1, b2.2.2⟩, b3.1⟩, by rw [b3.2.1, i_to hN], b3.2.2.2.2.2.2⟩
theorem dv_arg {N : Int} (hw : VNW c e p a 1 N 2 2 2 2 (vfl 1)) (hN : 0 ≤ N) : DV A e (YNG e p) (.arg N.toNat) a [] := by
  obtain ⟨-, ⟨-, b1, -, -⟩, b2, b3, -⟩ := hw
  exact ⟨⟨⟨b1, b2.2.2⟩, b3.1⟩, by rw [b3.2.1]; omega, b3.2.2.2.2.2.2⟩
theorem dv_index {N : Int} (hw : VNW c e p a 5 N 2 2 2 2 (vfl 5)) (hN : 0 ≤ N) : DV A e (YNG e p) (.index N.toNat) a [] := by
  obtain ⟨-, ⟨-, b1, -, -⟩, b2, b3, -⟩ := hw
  exact ⟨⟨⟨b1, b2.2.2⟩, b3.1⟩, by rw [b3.2.1]; omega, b3.2.2.2.2.2.2⟩
theorem dv_sub (hw : VNW c e p a 2 0 (A b) 2 2 g (vfl 2)) (hb : 0 ≤ b) (hg : CHN c (YNG c p) g l ∧ DV A c (YNG c p) E 2 l) : DV A e (YNG e p) (.sub (.index b.toNat) E) a [] := by
  obtain ⟨-, ⟨b0, b1, -, -⟩, b2, b3, -⟩ := hw
  refine ⟨⟨⟨b1, b2.2.2⟩, b3.1⟩, by rw [b3.2.2.1]; congr 1; omega, b3.2.2.2.2.2.2, l, ?_, DV_up b0.2 _ E 2 l (Nat.lt_succ_self _) hg.2⟩
  rw [b3.2.2.2.2.2.1]
  exact CHN.up b0.2 l g hg.1
theorem dv_div (hw : VNW c e p a 4 0 (A b) 2 2 g (vfl 4)) (hb : 0 ≤ b) (hg : CHN c (YNG c p) g l ∧ DV A c (YNG c p) E 2 l) : DV A e (YNG e p) (.div (.index b.toNat) E) a [] := by
  obtain ⟨-, ⟨b0, b1, -, -⟩, b2, b3, -⟩ := hw
  refine ⟨⟨⟨b1, b2.2.2⟩, b3.1⟩, by rw [b3.2.2.1]; congr 1; omega, b3.2.2.2.2.2.2, l, ?_, DV_up b0.2 _ E 2 l (Nat.lt_succ_self _) hg.2⟩
  rw [b3.2.2.2.2.2.1]
  exact CHN.up b0.2 l g hg.1
theorem dv_len (hw : VNW c e p a 6 0 2 x 2 2 1) (hx : DV A c (YNG c p) X x []) : DV A e (YNG e p) (.length X) a [] := by
  obtain ⟨-, ⟨b0, b1, -, -⟩, b2, b3, -⟩ := hw
  refine ⟨⟨⟨b1, b2.2.2⟩, b3.1⟩, b3.2.2.2.2.2.2, ?_⟩
  rw [b3.2.2.2.1]
  exact DV_up b0.2 _ X x [] (Nat.lt_succ_self _) hx
theorem dv_add (hX : isV X = true) (hY : isV Y = true) (hx : DV A c (YNG c p) X x []) (hy : DV A c (YNG c p) Y y []) (hw : VNW c e p a 3 0 2 x y 2 (if fI c x 6 ≠ 0 ∨ fI c y 6 ≠ 0 then 1 else 0)) : DV A e (YNG e p) (.add X Y) a [] := by
  obtain ⟨-, ⟨b0, b1, -, -⟩, b2, b3, -⟩ := hw
  obtain ⟨-, -, x6⟩ := DV_kind hX hx
  obtain ⟨-, -, y6⟩ := DV_kind hY hy
  refine ⟨⟨⟨b1, b2.2.2⟩, b3.1⟩, ?_, ?_, ?_⟩
  · rw [b3.2.2.2.2.2.2, x6, y6]
    show _ = if (hsL X || hsL Y) = true then (1 : Int) else 0
    cases hsL X <;> cases hsL Y <;> simp
  · rw [b3.2.2.2.1]; exact DV_up b0.2 _ X x [] (Nat.lt_succ_self _) hx
  · rw [b3.2.2.2.2.1]; exact DV_up b0.2 _ Y y [] (Nat.lt_succ_self _) hy
theorem dv_rem (hw : VNW c e p a 7 0 (A b) x y g 1) (hb : 0 ≤ b) (hx : DV A c (YNG c p) X x []) (hy : (Y = .null ∧ y = 2) ∨ (isV Y = true ∧ DV A c (YNG c p) Y y [])) (hg : (E = .null ∧ g = 2) ∨ (E ≠ .null ∧ CHN c (YNG c p) g l ∧ DV A c (YNG c p) E 2 l)) : DV A e (YNG e p) (.rem (.index b.toNat) (.elem X (.elem Y E))) a [] := by
  obtain ⟨-, ⟨b0, b1, -, -⟩, b2, b3, -⟩ := hw
  refine ⟨⟨⟨b1, b2.2.2⟩, b3.1⟩, by rw [b3.2.2.1]; congr 1; omega, b3.2.2.2.2.2.2, ?_, ?_, ?_, ?_⟩
  · rw [b3.2.2.2.1]; exact DV_up b0.2 _ X x [] (Nat.lt_succ_self _) hx
  · rw [b3.2.2.2.2.1]
    rcases hy with ⟨h1, h2⟩ | ⟨h1, h2⟩
    · exact ⟨fun _ => h2, fun _ => h1⟩
    · exact ⟨fun w => absurd w (isV_nn h1), fun w => absurd w (DV_ne h1 h2)⟩
  · rw [b3.2.2.2.2.1]
    rcases hy with ⟨h1, h2⟩ | ⟨h1, h2⟩
    · exact fun w => absurd h1 w
    · exact fun _ => DV_up b0.2 _ Y y [] (Nat.lt_succ_self _) h2
  · rw [b3.2.2.2.2.2.1]
    rcases hg with h1 | ⟨h1, h2, h3⟩
    · exact Or.inl h1
    · exact Or.inr ⟨h1, l, CHN.up b0.2 l g h2, DV_up b0.2 _ E 2 l (Nat.lt_succ_self _) h3⟩
theorem DWS.vl (h : DWS c0 p most st kv ks c) (hk : 0 ≤ kv) : PL2 c ∧ fI c p 2 < 620 := by
  obtain ⟨a1, a2, a3, a4, a5, a6⟩ := h
  exact ⟨a2, by omega⟩
theorem DWS.sg (h : DWS c0 p most st kv ks c) (hk : 0 ≤ ks) : PL2 c ∧ fI c p 3 < 320 := by
  obtain ⟨a1, a2, a3, a4, a5, a6⟩ := h
  exact ⟨a2, by omega⟩
theorem dint_c {N : Int} {F : Nat → SC → Prop} (hD : DWX A c0 σ t p) (hS : DWS c0 p most st kv ks c) (hk : 0 ≤ kv) (hN : inR N) (hF : ∀ a e, DWP A p 1 0 0 c st (rok st (.int (Int32.ofInt N))) a e → F a e) : ck iv L h0 (d + 2) 196 [vr p, vi 0, vi N] c (qa F) :=
  plainv_c (hD.fx hS.1) hD.2.1 (hS.vl hk).1 (hS.vl hk).2 (fun e a hw => hF a e (dw_new hD hS hw (dv_int hw hN)))
theorem darg_c {N : Int} {F : Nat → SC → Prop} (hD : DWX A c0 σ t p) (hS : DWS c0 p most st kv ks c) (hk : 0 ≤ kv) (hN : 0 ≤ N) (hF : ∀ a e, DWP A p 1 0 0 c st (rok st (.arg N.toNat)) a e → F a e) : ck iv L h0 (d + 2) 196 [vr p, vi 1, vi N] c (qa F) :=
  plainv_c (hD.fx hS.1) hD.2.1 (hS.vl hk).1 (hS.vl hk).2 (fun e a hw => hF a e (dw_new hD hS hw (dv_arg hw hN)))
theorem dindex_c {N : Int} {F : Nat → SC → Prop} (hD : DWX A c0 σ t p) (hS : DWS c0 p most st kv ks c) (hk : 0 ≤ kv) (hN : 0 ≤ N) (hF : ∀ a e, DWP A p 1 0 0 c st (rok st (.index N.toNat)) a e → F a e) : ck iv L h0 (d + 2) 196 [vr p, vi 5, vi N] c (qa F) :=
  plainv_c (hD.fx hS.1) hD.2.1 (hS.vl hk).1 (hS.vl hk).2 (fun e a hw => hF a e (dw_new hD hS hw (dv_index hw hN)))
theorem dsub_c {F : Nat → SC → Prop} (hD : DWX A c0 σ t p) (hS : DWS c0 p most st kv ks c) (hk : 0 ≤ kv) (hb : 0 ≤ b) (hg : CHN c (YNG c p) g l ∧ DV A c (YNG c p) E 2 l) (hF : ∀ a e, DWP A p 1 0 0 c st (rok st (.sub (.index b.toNat) E)) a e → F a e) : ck iv L h0 (d + 2) 197 [vr p, vi 2, vr (A b), vr g] c (qa F) :=
  seeing_c (hD.fx hS.1) hD.2.1 (hS.vl hk).1 (hS.vl hk).2 (fun e a hw => hF a e (dw_new hD hS hw (dv_sub hw hb hg)))
theorem ddiv_c {F : Nat → SC → Prop} (hD : DWX A c0 σ t p) (hS : DWS c0 p most st kv ks c) (hk : 0 ≤ kv) (hb : 0 ≤ b) (hg : CHN c (YNG c p) g l ∧ DV A c (YNG c p) E 2 l) (hF : ∀ a e, DWP A p 1 0 0 c st (rok st (.div (.index b.toNat) E)) a e → F a e) : ck iv L h0 (d + 2) 197 [vr p, vi 4, vr (A b), vr g] c (qa F) :=
  seeing_c (hD.fx hS.1) hD.2.1 (hS.vl hk).1 (hS.vl hk).2 (fun e a hw => hF a e (dw_new hD hS hw (dv_div hw hb hg)))
theorem dlen_c {F : Nat → SC → Prop} (hD : DWX A c0 σ t p) (hS : DWS c0 p most st kv ks c) (hk : 0 ≤ kv) (hx : DV A c (YNG c p) X x []) (hF : ∀ a e, DWP A p 1 0 0 c st (rok st (.length X)) a e → F a e) : ck iv L h0 (d + 2) 199 [vr p, vr x] c (qa F) :=
  framed_c (hD.fx hS.1) hD.2.1 (hS.vl hk).1 (hS.vl hk).2 (fun e a hw => hF a e (dw_new hD hS hw (dv_len hw hx)))
theorem dadd_c {F : Nat → SC → Prop} (hD : DWX A c0 σ t p) (hS : DWS c0 p most st kv ks c) (hk : 0 ≤ kv) (hX : isV X = true) (hY : isV Y = true) (hx : DV A c (YNG c p) X x []) (hy : DV A c (YNG c p) Y y []) (hF : ∀ a e, DWP A p 1 0 0 c st (rok st (.add X Y)) a e → F a e) : ck iv L h0 (d + 2) 198 [vr p, vr x, vr y] c (qa F) :=
  couple_c (hD.fx hS.1) hD.2.1 (hS.vl hk).1 (hS.vl hk).2 (DV_kind hX hx).1 (DV_kind hY hy).1 (fun e a hw => hF a e (dw_new hD hS hw (dv_add hX hY hx hy hw)))
theorem drem_c {F : Nat → SC → Prop} (hD : DWX A c0 σ t p) (hS : DWS c0 p most st kv ks c) (hk : 0 ≤ kv) (hb : 0 ≤ b) (hx : DV A c (YNG c p) X x []) (hy : (Y = .null ∧ y = 2) ∨ (isV Y = true ∧ DV A c (YNG c p) Y y [])) (hg : (E = .null ∧ g = 2) ∨ (E ≠ .null ∧ CHN c (YNG c p) g l ∧ DV A c (YNG c p) E 2 l)) (hF : ∀ a e, DWP A p 1 0 0 c st (rok st (.rem (.index b.toNat) (.elem X (.elem Y E)))) a e → F a e) : ck iv L h0 (d + 2) 200 [vr p, vr (A b), vr x, vr y, vr g] c (qa F) :=
  acted_c (hD.fx hS.1) hD.2.1 (hS.vl hk).1 (hS.vl hk).2 (fun e a hw => hF a e (dw_new hD hS hw (dv_rem hw hb hx hy hg)))
/-- two wholes -/
theorem dreck_c {m n : Int32} {F : Nat → SC → Prop} (hD : DWX A c0 σ t p) (hS : DWS c0 p most st kv ks c) (hk : 0 ≤ kv) (hb : b ∈ fl t) (hso : σ.2 9 b = 4 ∨ σ.2 9 b = 5 ∨ σ.2 9 b = 6 ∨ σ.2 9 b = 7) (hF : ∀ a e, DWP A p 1 0 0 c st (rckE (σ.2 9 b) b (.int m) (.int n) st) a e → F a e) : ck iv L h0 (d + 3) 240 [vr 176, vr (A b), vi m.toInt, vi n.toInt] c (qa F) := by
  have hx := hS.1
  obtain ⟨w1, w2, w3⟩ := hD.wk hx
  obtain ⟨⟨n1, n2, n3, n4, n5⟩, -⟩ := hD.node hx hb
  have hp := hS.2.2.1.1
  have hF' : ∀ a e, DWP A p 1 0 0 c st (if σ.2 9 b = 7 then rok st (.arg (if m.toInt < n.toInt then 1 else 0)) else if σ.2 9 b = 6 ∧ n.toInt = 0 then rst st 2 b else rok st (.int (Int32.ofInt (wh2 (σ.2 9 b) m.toInt n.toInt)))) a e → F a e := hF
  refine D240 ⟨n1, ?_⟩
  rw [n2, n3, hp]
  refine ⟨fun q => ⟨w1, w2, dint_c hD hS hk (w32_in _) (fun a e h => hF' a e ?_)⟩, fun q => ⟨w1, w2, dint_c hD hS hk (w32_in _) (fun a e h => hF' a e ?_)⟩, fun q => ⟨fun z => ⟨w1, z, w2, dint_c hD hS hk (w32_in _) (fun a e h => hF' a e ?_)⟩, fun z => ⟨w1, dstop_c hD hS (by decide) (fun e h => hF' 2 e ?_)⟩⟩, fun q => ⟨w1, fun z => ⟨w2, darg_c hD hS hk (by decide) (fun a e h => hF' a e ?_)⟩, fun z => ⟨w2, darg_c hD hS hk (by decide) (fun a e h => hF' a e ?_)⟩⟩⟩
  · rw [if_neg (by omega), if_neg (by omega), q]; exact h
  · rw [if_neg (by omega), if_neg (by omega), q]; exact h
  · rw [if_neg (by omega), if_neg (fun w => z w.2), q]; exact h
  · rw [if_neg (by omega), if_pos ⟨q, z⟩]; exact h.up (by decide) (by decide) (by decide)
  · rw [if_pos (by omega), if_neg (by omega)]; exact h
  · rw [if_pos (by omega), if_pos (by omega)]; exact h
end
