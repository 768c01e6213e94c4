/-! A text's signs: String.charAt of a text that was there (its five methods), read only. -/
def rmS (d : Nat) : Room := { frames := d + 1, cells := 0, slots := 0, locals := 20 + 40 * d }
/-- an answer, the heap as it was -/
def qRd (v : Option Value) : Array Value → State → Outcome → State → Prop := fun _ st o t => o = .returned v ∧ t.heap = st.heap
theorem dPC_0 : decode bPC 0 = .ok (.iload_n 0, 1) := by decide +kernel
theorem dPC_1 : decode bPC 1 = .ok (.ifCond .lt 8, 3) := by decide +kernel
theorem dPC_4 : decode bPC 4 = .ok (.iload_n 0, 1) := by decide +kernel
theorem dPC_5 : decode bPC 5 = .ok (.iload_n 1, 1) := by decide +kernel
theorem dPC_6 : decode bPC 6 = .ok (.if_icmp .lt 10, 3) := by decide +kernel
theorem dPC_16 : decode bPC 16 = .ok (.iload_n 0, 1) := by decide +kernel
theorem dPC_17 : decode bPC 17 = .ok (.ireturn, 1) := by decide +kernel
theorem c_PC (l : Launch) (i n : Int32) (V : Value) (hV : V = .null ∨ ∃ t, V = .ref t) (h0 : ¬ i < 0) (h1 : i < n) (ws : List Cond) : Met l yPC (Cond.code yPC bPC 3 (some .int) :: ws) (rmS 0) (fun a _ => a = ([.int i, .int n, V] : List Value).toArray) (qRd (some (.int i))) 0 0 (fun _ => False) := by
  refine Met.ofW (cc := bPC) (maxL := 3) (ret := some .int) (by decide) rfl ?_
  intro p e s m args below meth c s₁ B hml hv
  subst hv
  have hx := B.exec
  have hb := B.bytes
  have hr := B.returns
  have hlocks := B.notSynchronized
  have hlen : (lg_sl [.int i, .int n, V]).length ≤ 3 := by rcases hV with rfl | ⟨t, rfl⟩ <;> exact Nat.le_of_ble_eq_true rfl
  have hl := lv_entry ([.int i, .int n, V]) (n := 3) hlen
  rw [lg_entry_eq]
  generalize (lg_sl ([.int i, .int n, V]) ++ List.replicate (3 - (lg_sl ([.int i, .int n, V])).length) Slot.unset).toArray = ls at hl ⊢
  have hl0 : ls[0]? = some (.val (.int i)) := lv_at hl 0 rfl
  have hl1 : ls[1]? = some (.val (.int n)) := lv_at hl 1 rfl
  refine lv_iload_n hx hb dPC_0 rfl hl0 ?_
  refine lv_if_lt (tgt := 9) hx hb dPC_1 rfl (fun q => absurd q h0) (fun _ => ?_)
  refine lv_iload_n hx hb dPC_4 rfl hl0 ?_
  refine lv_iload_n hx hb dPC_5 rfl hl1 ?_
  refine lv_icmp_lt (tgt := 16) hx hb dPC_6 rfl (fun _ => ?_) (fun q => absurd h1 q)
  refine lv_iload_n hx hb dPC_16 rfl hl0 ?_
  exact W.iret hx hb hr (fun t ht _ => ⟨rfl, ht⟩) (fun q h => by cases h) dPC_17
theorem strL_at {Ts : List Cond} (h : ∀ w ∈ strL, w ∈ Ts) (k : Nat) {w : Cond} (hk : strL[k]? = some w) : w ∈ Ts := h w (List.mem_of_getElem? hk)
theorem dSC_0 : decode bSC 0 = .ok (.iload_n 0, 1) := by decide +kernel
theorem dSC_1 : decode bSC 1 = .ok (.iload_n 1, 1) := by decide +kernel
theorem dSC_2 : decode bSC 2 = .ok (.getstatic 1053, 3) := by decide +kernel
theorem dSC_5 : decode bSC 5 = .ok (.invokestatic 1059, 3) := by decide +kernel
theorem dSC_8 : decode bSC 8 = .ok (.pop, 1) := by decide +kernel
theorem dSC_9 : decode bSC 9 = .ok (.return_, 1) := by decide +kernel
theorem roomD (d d2 M : Nat) (h : d < d2) (hM : M ≤ 21) : (rmS d).frames + 1 ≤ (rmS d2).frames ∧ 8 + (M + 11) + (rmS d).locals ≤ (rmS d2).locals := by
  unfold rmS
  constructor
  · simp only; omega
  · simp only; omega
theorem goodS {Ts : List Cond} (hG : ∀ w ∈ Ts, goodWord w = true) {w : Cond} (hw : w ∈ Ts) : GoodIn Ts (w :: Ts) := by
  intro v hv
  rcases List.mem_cons.mp hv with rfl | hv
  · exact ⟨hw, good_of_word (hG _ hw)⟩
  · exact ⟨hv, good_of_word (hG _ hv)⟩
theorem c_SC (l : Launch) {Ts : List Cond} (hG : ∀ w ∈ Ts, goodWord w = true) (hS : ∀ w ∈ strL, w ∈ Ts) (base : Nat) (i n : Int32) (h0 : ¬ i < 0) (h1 : i < n) : Met l ySC (Cond.code ySC bSC 2 none :: Ts) (rmS 1) (fun a U => a = ([.int i, .int n] : List Value).toArray ∧ zqS base U) (qRd none) 0 0 (fun _ => False) := by
  refine Met.ofW (cc := bSC) (maxL := 2) (ret := none) (by decide) rfl ?_
  intro p e s m args below meth c s₁ B hml hv
  obtain ⟨rfl, hZ⟩ := hv
  have hx := B.exec
  have hb := B.bytes
  have hr := B.returns
  have hlocks := B.notSynchronized
  have hts := atoms_spec (ws := Cond.code ySC bSC 2 none :: Ts) B.pre
  have htT : ∀ w ∈ Ts, w.before ([.int i, .int n] : List Value).toArray s = true := fun w hw => hts w (List.mem_cons_of_mem _ hw)
  have hown : s.vm.findClass "java/lang/String" = some m.cls := findClass_of_methodNamed B.named
  have hl := lv_entry ([.int i, .int n]) (n := 2) (Nat.le_of_ble_eq_true rfl)
  rw [lg_entry_eq]
  generalize (lg_sl ([.int i, .int n]) ++ List.replicate (2 - (lg_sl ([.int i, .int n])).length) Slot.unset).toArray = ls at hl ⊢
  have hl0 : ls[0]? = some (.val (.int i)) := lv_at hl 0 rfl
  have hl1 : ls[1]? = some (.val (.int n)) := lv_at hl 1 rfl
  have hSS : va_S (fun q => base ≤ q) s.heap s.heap [] := va_S.rf
  refine lv_iload_n hx hb dSC_0 rfl hl0 ?_
  refine lv_iload_n hx hb dSC_1 rfl hl1 ?_
  have key : ∀ V : Value, (V = .null ∨ ∃ t, V = .ref t) → W p l e (headSpec (Cond.code ySC bSC 2 none :: Ts) (rmS 1)).room s m ([.int i, .int n] : List Value).toArray below meth c s.heap [] 0 0 (MQ below (qRd none) ([.int i, .int n] : List Value).toArray s 0 0 (fun _ => False)) (F0 m 5 ls [V, .int n, .int i]) := by
    intro V hV
    have hcat : V.category = 1 := by rcases hV with rfl | ⟨t, rfl⟩ <;> rfl
    refine W.callX (W.runS (y := yPC) (bytes := bPC) (maxL := 3) (ret := some .int) (n := 3) (As := [.int i, .int n, V]) (rest := []) (Ts := Ts) ⟨hx, hb, hml, hown, htT⟩ (c_PC l i n V hV h0 h1 Ts) ⟨callB_of 3 htT (goodS hG (strL_at hS 0 rfl)) rfl rfl rfl (htT _ (strL_at hS 2 rfl)) (htT _ (strL_at hS 3 rfl)) ⟨by decide, by decide, by decide +kernel⟩ (roomD 0 1 3 (by decide) (by decide)), htT _ (strL_at hS 1 rfl)⟩ ⟨fun _ _ _ _ q => q, fun _ _ _ => rfl⟩ rfl rfl hl.1 rfl (Nat.le_of_ble_eq_true rfl) dSC_5 ⟨Nat.zero_le _, Nat.zero_le _⟩) (fun q h => h.elim) (fun v st₀ t g1 g2 => ?_)
    obtain ⟨g3, g4⟩ := g2
    cases g3
    rw [g4, g1]
    refine lv_pop hx hb dSC_8 rfl ?_
    exact W.vret hx hb hr (fun t ht _ => ⟨rfl, ht⟩) (fun q h => by cases h) dSC_9
  rcases hZ with hZ | ⟨t, hZ⟩
  · exact va_gets hx hb hZ hSS hown (htT _ (strL_at hS 4 rfl)) (fun q hq => hq) dSC_2 (key _ (Or.inl rfl))
  · exact va_gets hx hb hZ hSS hown (htT _ (strL_at hS 4 rfl)) (fun q hq => hq) dSC_2 (key _ (Or.inr ⟨t, rfl⟩))
theorem dLC_0 : decode bLC 0 = .ok (.iload_n 1, 1) := by decide +kernel
theorem dLC_1 : decode bLC 1 = .ok (.aload_n 0, 1) := by decide +kernel
theorem dLC_2 : decode bLC 2 = .ok (.arraylength, 1) := by decide +kernel
theorem dLC_3 : decode bLC 3 = .ok (.invokestatic 9, 3) := by decide +kernel
theorem dLC_6 : decode bLC 6 = .ok (.aload_n 0, 1) := by decide +kernel
theorem dLC_7 : decode bLC 7 = .ok (.iload_n 1, 1) := by decide +kernel
theorem dLC_8 : decode bLC 8 = .ok (.baload, 1) := by decide +kernel
theorem dLC_9 : decode bLC 9 = .ok (.sipush 255, 3) := by decide +kernel
theorem dLC_12 : decode bLC 12 = .ok (.iand, 1) := by decide +kernel
theorem dLC_13 : decode bLC 13 = .ok (.i2c, 1) := by decide +kernel
theorem dLC_14 : decode bLC 14 = .ok (.ireturn, 1) := by decide +kernel
theorem vin_lt {i : Int32} {n : Nat} (h : vp_in i n) (hn : n < 2 ^ 31) : ¬ i < 0 ∧ i < Int32.ofNat n := by
  obtain ⟨h1, h2⟩ := vp_in_iff.mp h
  refine ⟨fun q => h (Or.inl q), Int32.lt_iff_toInt_lt.mpr ?_⟩
  rw [show (Int32.ofNat n).toInt = (n : Int) from nI_toInt hn]
  exact h2
theorem c_LC (l : Launch) {Ts : List Cond} (hG : ∀ w ∈ Ts, goodWord w = true) (hS : ∀ w ∈ strL, w ∈ Ts) (base q n : Nat) (f : Nat → Int32) (i : Int32) (hi : vp_in i n) (hn : n < 2 ^ 31) : Met l yLC (Cond.code yLC bLC 2 (some .char) :: Ts) (rmS 2) (fun a U => a = ([.ref q, .int i] : List Value).toArray ∧ va_T .byte q n (fun j => .int (f j)) (fun a => base ≤ a) U U.heap ∧ zqS base U) (qRd (some (.int (f i.toNatClampNeg &&& 255)))) 0 0 (fun _ => False) := by
  refine Met.ofW (cc := bLC) (maxL := 2) (ret := some .char) (by decide) rfl ?_
  intro p e s m args below meth c s₁ B hml hv
  obtain ⟨rfl, hT, hZ⟩ := hv
  have hx := B.exec
  have hb := B.bytes
  have hr := B.returns
  have hlocks := B.notSynchronized
  have hts := atoms_spec (ws := Cond.code yLC bLC 2 (some .char) :: Ts) B.pre
  have htT : ∀ w ∈ Ts, w.before ([.ref q, .int i] : List Value).toArray s = true := fun w hw => hts w (List.mem_cons_of_mem _ hw)
  have hown : s.vm.findClass "java/lang/StringLatin1" = some m.cls := findClass_of_methodNamed B.named
  have hl := lv_entry ([.ref q, .int i]) (n := 2) (Nat.le_of_ble_eq_true rfl)
  rw [lg_entry_eq]
  generalize (lg_sl ([.ref q, .int i]) ++ List.replicate (2 - (lg_sl ([.ref q, .int i])).length) Slot.unset).toArray = ls at hl ⊢
  have hl0 : ls[0]? = some (.val (.ref q)) := lv_at hl 0 rfl
  have hl1 : ls[1]? = some (.val (.int i)) := lv_at hl 1 rfl
  have hSS : va_S (fun q => base ≤ q) s.heap s.heap [] := va_S.rf
  obtain ⟨g0, g1⟩ := vin_lt hi hn
  refine lv_iload_n hx hb dLC_0 rfl hl1 ?_
  refine lv_aload_n hx hb dLC_1 rfl hl0 ?_
  refine va_tlen hx hb hT hSS rfl dLC_2 ?_
  refine W.callX (W.runS (y := ySC) (bytes := bSC) (maxL := 2) (ret := none) (n := 2) (As := [.int i, .int (Int32.ofNat n)]) (rest := []) (Ts := Ts) ⟨hx, hb, hml, hown, htT⟩ (c_SC l hG hS base i (Int32.ofNat n) g0 g1) ⟨callB_of 2 htT (goodS hG (strL_at hS 5 rfl)) rfl rfl rfl (htT _ (strL_at hS 7 rfl)) (htT _ (strL_at hS 8 rfl)) ⟨by decide, by decide, by decide +kernel⟩ (roomD 1 2 2 (by decide) (by decide)), htT _ (strL_at hS 6 rfl)⟩ ⟨fun a U g mk h => ⟨h.1, zqS_on (U := U.calling g mk a) h.2 (Vm.Alike.refl U.vm) (fun _ _ _ => rfl)⟩, fun U hU hW => ⟨rfl, zqS_on hZ hW.alike (fun _ _ _ => by rw [hU])⟩⟩ rfl rfl hl.1 rfl (Nat.le_of_ble_eq_true rfl) dLC_3 ⟨Nat.zero_le _, Nat.zero_le _⟩) (fun q h => h.elim) (fun v st₀ t k1 k2 => ?_)
  obtain ⟨k3, k4⟩ := k2
  cases k3
  rw [k4, k1]
  refine lv_aload_n hx hb dLC_6 rfl hl0 ?_
  refine lv_iload_n hx hb dLC_7 rfl hl1 ?_
  refine va_tb hx hb hT hSS hi rfl dLC_8 ?_
  refine lv_sipush hx hb dLC_9 rfl ?_
  refine lv_iand hx hb dLC_12 ?_
  refine lv_i2c hx hb dLC_13 (sc_c2 (f i.toNatClampNeg)) ?_
  exact W.zret hx hb hr (sc_nar (f i.toNatClampNeg)) (fun t ht _ => ⟨rfl, ht⟩) (fun q h => by cases h) dLC_14
theorem dIL_0 : decode bIL 0 = .ok (.getstatic 38, 3) := by decide +kernel
theorem dIL_3 : decode bIL 3 = .ok (.ifCond .eq 14, 3) := by decide +kernel
theorem dIL_6 : decode bIL 6 = .ok (.aload_n 0, 1) := by decide +kernel
theorem dIL_7 : decode bIL 7 = .ok (.getfield 15, 3) := by decide +kernel
theorem dIL_10 : decode bIL 10 = .ok (.ifCond .ne 7, 3) := by decide +kernel
theorem dIL_13 : decode bIL 13 = .ok (.iconst 1, 1) := by decide +kernel
theorem dIL_14 : decode bIL 14 = .ok (.goto 4, 3) := by decide +kernel
theorem dIL_18 : decode bIL 18 = .ok (.ireturn, 1) := by decide +kernel
theorem c_IL (l : Launch) {Ts : List Cond} (hS : ∀ w ∈ strL, w ∈ Ts) (base q n : Nat) (f : Nat → Int32) : Met l yIL (Cond.code yIL bIL 1 (some .boolean) :: Ts) (rmS 0) (fun a U => a = ([.ref q] : List Value).toArray ∧ txF base q n f U ∧ csF base U) (qRd (some (.int 1))) 0 0 (fun _ => False) := by
  refine Met.ofW (cc := bIL) (maxL := 1) (ret := some .boolean) (by decide) rfl ?_
  intro p e s m args below meth c s₁ B hml hv
  obtain ⟨rfl, ⟨qv, t1, t2, t3, t4⟩, hC⟩ := hv
  have hx := B.exec
  have hb := B.bytes
  have hr := B.returns
  have hlocks := B.notSynchronized
  have hts := atoms_spec (ws := Cond.code yIL bIL 1 (some .boolean) :: Ts) B.pre
  have htT : ∀ w ∈ Ts, w.before ([.ref q] : List Value).toArray s = true := fun w hw => hts w (List.mem_cons_of_mem _ hw)
  have hown : s.vm.findClass "java/lang/String" = some m.cls := findClass_of_methodNamed B.named
  have hl := lv_entry ([.ref q]) (n := 1) (Nat.le_of_ble_eq_true rfl)
  rw [lg_entry_eq]
  generalize (lg_sl ([.ref q]) ++ List.replicate (1 - (lg_sl ([.ref q])).length) Slot.unset).toArray = ls at hl ⊢
  have hl0 : ls[0]? = some (.val (.ref q)) := lv_at hl 0 rfl
  have hSS : va_S (fun q => base ≤ q) s.heap s.heap [] := va_S.rf
  refine va_gets hx hb hC hSS hown (htT _ (strL_at hS 17 rfl)) (fun q hq => hq) dIL_0 ?_
  refine lv_if_eq (tgt := 17) hx hb dIL_3 rfl (fun h => absurd h (by decide)) (fun _ => ?_)
  refine lv_aload_n hx hb dIL_6 rfl hl0 ?_
  refine vk_getf hx hb t2 hSS hown (htT _ (strL_at hS 18 rfl)) (fun q hq => hq) dIL_7 ?_
  refine lv_if_ne (tgt := 17) hx hb dIL_10 rfl (fun h => absurd rfl h) (fun _ => ?_)
  refine lv_iconst hx hb dIL_13 rfl ?_
  refine lv_goto (tgt := 18) hx hb dIL_14 rfl ?_
  exact W.zret (v := 1) hx hb hr rfl (fun t ht _ => ⟨rfl, ht⟩) (fun q h => by cases h) dIL_18
theorem dCA_0 : decode bCA 0 = .ok (.aload_n 0, 1) := by decide +kernel
theorem dCA_1 : decode bCA 1 = .ok (.invokevirtual 492, 3) := by decide +kernel
theorem dCA_4 : decode bCA 4 = .ok (.ifCond .eq 12, 3) := by decide +kernel
theorem dCA_7 : decode bCA 7 = .ok (.aload_n 0, 1) := by decide +kernel
theorem dCA_8 : decode bCA 8 = .ok (.getfield 9, 3) := by decide +kernel
theorem dCA_11 : decode bCA 11 = .ok (.iload_n 1, 1) := by decide +kernel
theorem dCA_12 : decode bCA 12 = .ok (.invokestatic 495, 3) := by decide +kernel
theorem dCA_15 : decode bCA 15 = .ok (.ireturn, 1) := by decide +kernel
theorem c_CA (l : Launch) {Ts : List Cond} (hG : ∀ w ∈ Ts, goodWord w = true) (hS : ∀ w ∈ strL, w ∈ Ts) (base q n : Nat) (f : Nat → Int32) (i : Int32) (hi : vp_in i n) (hn : n < 2 ^ 31) : Met l yCA (Cond.code yCA bCA 2 (some .char) :: Ts) (rmS 3) (fun a U => a = ([.ref q, .int i] : List Value).toArray ∧ txF base q n f U ∧ csF base U ∧ zqS base U) (qRd (some (.int (f i.toNatClampNeg &&& 255)))) 0 0 (fun _ => False) := by
  refine Met.ofW (cc := bCA) (maxL := 2) (ret := some .char) (by decide) rfl ?_
  intro p e s m args below meth c s₁ B hml hv
  obtain ⟨rfl, hX, hC, hZ⟩ := hv
  obtain ⟨qv, t1, t2, t3, t4⟩ := id hX
  have hx := B.exec
  have hb := B.bytes
  have hr := B.returns
  have hlocks := B.notSynchronized
  have hts := atoms_spec (ws := Cond.code yCA bCA 2 (some .char) :: Ts) B.pre
  have htT : ∀ w ∈ Ts, w.before ([.ref q, .int i] : List Value).toArray s = true := fun w hw => hts w (List.mem_cons_of_mem _ hw)
  have hown : s.vm.findClass "java/lang/String" = some m.cls := findClass_of_methodNamed B.named
  have hl := lv_entry ([.ref q, .int i]) (n := 2) (Nat.le_of_ble_eq_true rfl)
  rw [lg_entry_eq]
  generalize (lg_sl ([.ref q, .int i]) ++ List.replicate (2 - (lg_sl ([.ref q, .int i])).length) Slot.unset).toArray = ls at hl ⊢
  have hl0 : ls[0]? = some (.val (.ref q)) := lv_at hl 0 rfl
  have hl1 : ls[1]? = some (.val (.int i)) := lv_at hl 1 rfl
  have hSS : va_S (fun q => base ≤ q) s.heap s.heap [] := va_S.rf
  refine lv_aload_n hx hb dCA_0 rfl hl0 ?_
  refine W.callX (W.runV (y := yIL) (C := "java/lang/String") (b := q) (bytes := bIL) (maxL := 1) (ret := some .boolean) (n := 0) (As := []) (rest := []) (Ts := Ts) ⟨hx, hb, hml, hown, htT⟩ (c_IL l hS base q n f) ⟨callB_of 0 htT (goodS hG (strL_at hS 13 rfl)) rfl rfl rfl (htT _ (strL_at hS 7 rfl)) (htT _ (strL_at hS 16 rfl)) ⟨by decide, by decide, by decide +kernel⟩ (roomD 0 3 1 (by decide) (by decide)), htT _ (strL_at hS 14 rfl), htT _ (strL_at hS 15 rfl)⟩ ⟨fun a U g mk h => ⟨h.1, txF_on (U := U.calling g mk a) h.2.1 (Vm.Alike.refl U.vm) (fun _ _ _ => rfl), csF_on (U := U.calling g mk a) h.2.2 (Vm.Alike.refl U.vm) (fun _ _ _ => rfl)⟩, (by obtain ⟨cell, k1, k2, k3, -⟩ := t1; exact ⟨cell, k1, k2, k3⟩), fun U hU hW => ⟨rfl, txF_on hX hW.alike (fun _ _ _ => by rw [hU]), csF_on hC hW.alike (fun _ _ _ => by rw [hU])⟩⟩ rfl rfl hl.1 rfl (Nat.le_of_ble_eq_true rfl) dCA_1 ⟨Nat.zero_le _, Nat.zero_le _⟩) (fun q h => h.elim) (fun v st₀ t k1 k2 => ?_)
  obtain ⟨k3, k4⟩ := k2
  cases k3
  rw [k4, k1]
  refine lv_if_eq (tgt := 16) hx hb dCA_4 rfl (fun h => absurd h (by decide)) (fun _ => ?_)
  refine lv_aload_n hx hb dCA_7 rfl hl0 ?_
  refine vk_getf hx hb t3 hSS hown (htT _ (strL_at hS 19 rfl)) (fun q hq => hq) dCA_8 ?_
  refine lv_iload_n hx hb dCA_11 rfl hl1 ?_
  refine W.callX (W.runS (y := yLC) (bytes := bLC) (maxL := 2) (ret := some .char) (n := 2) (As := [.ref qv, .int i]) (rest := []) (Ts := Ts) ⟨hx, hb, hml, hown, htT⟩ (c_LC l hG hS base qv n f i hi hn) ⟨callB_of 2 htT (goodS hG (strL_at hS 9 rfl)) rfl rfl rfl (htT _ (strL_at hS 11 rfl)) (htT _ (strL_at hS 12 rfl)) ⟨by decide, by decide, by decide +kernel⟩ (roomD 2 3 2 (by decide) (by decide)), htT _ (strL_at hS 10 rfl)⟩ ⟨fun a U g mk h => ⟨h.1, h.2.1.moved (Vm.Alike.refl U.vm), zqS_on (U := U.calling g mk a) h.2.2 (Vm.Alike.refl U.vm) (fun _ _ _ => rfl)⟩, fun U hU hW => ⟨rfl, by rw [hU]; exact t4.moved hW.alike, zqS_on hZ hW.alike (fun _ _ _ => by rw [hU])⟩⟩ rfl rfl hl.1 rfl (Nat.le_of_ble_eq_true rfl) dCA_12 ⟨Nat.zero_le _, Nat.zero_le _⟩) (fun q h => h.elim) (fun v2 st2 t2' k5 k6 => ?_)
  obtain ⟨k7, k8⟩ := k6
  cases k7
  rw [k8, k5]
  exact W.zret hx hb hr (sc_nar (f i.toNatClampNeg)) (fun t ht _ => ⟨rfl, ht⟩) (fun q h => by cases h) dCA_15
theorem dCO_0 : decode bCO 0 = .ok (.getstatic 38, 3) := by decide +kernel
theorem dCO_3 : decode bCO 3 = .ok (.ifCond .eq 10, 3) := by decide +kernel
theorem dCO_6 : decode bCO 6 = .ok (.aload_n 0, 1) := by decide +kernel
theorem dCO_7 : decode bCO 7 = .ok (.getfield 15, 3) := by decide +kernel
theorem dCO_10 : decode bCO 10 = .ok (.goto 4, 3) := by decide +kernel
theorem dCO_14 : decode bCO 14 = .ok (.ireturn, 1) := by decide +kernel
theorem c_CO (l : Launch) {Ts : List Cond} (hS : ∀ w ∈ strL, w ∈ Ts) (base q n : Nat) (f : Nat → Int32) : Met l yCO (Cond.code yCO bCO 1 (some .byte) :: Ts) (rmS 0) (fun a U => a = ([.ref q] : List Value).toArray ∧ txF base q n f U ∧ csF base U) (qRd (some (.int 0))) 0 0 (fun _ => False) := by
  refine Met.ofW (cc := bCO) (maxL := 1) (ret := some .byte) (by decide) rfl ?_
  intro p e s m args below meth c s₁ B hml hv
  obtain ⟨rfl, ⟨qv, t1, t2, t3, t4⟩, hC⟩ := hv
  have hx := B.exec
  have hb := B.bytes
  have hr := B.returns
  have hlocks := B.notSynchronized
  have hts := atoms_spec (ws := Cond.code yCO bCO 1 (some .byte) :: Ts) B.pre
  have htT : ∀ w ∈ Ts, w.before ([.ref q] : List Value).toArray s = true := fun w hw => hts w (List.mem_cons_of_mem _ hw)
  have hown : s.vm.findClass "java/lang/String" = some m.cls := findClass_of_methodNamed B.named
  have hl := lv_entry ([.ref q]) (n := 1) (Nat.le_of_ble_eq_true rfl)
  rw [lg_entry_eq]
  generalize (lg_sl ([.ref q]) ++ List.replicate (1 - (lg_sl ([.ref q])).length) Slot.unset).toArray = ls at hl ⊢
  have hl0 : ls[0]? = some (.val (.ref q)) := lv_at hl 0 rfl
  have hSS : va_S (fun q => base ≤ q) s.heap s.heap [] := va_S.rf
  refine va_gets hx hb hC hSS hown (htT _ (strL_at hS 17 rfl)) (fun q hq => hq) dCO_0 ?_
  refine lv_if_eq (tgt := 13) hx hb dCO_3 rfl (fun h => absurd h (by decide)) (fun _ => ?_)
  refine lv_aload_n hx hb dCO_6 rfl hl0 ?_
  refine vk_getf hx hb t2 hSS hown (htT _ (strL_at hS 18 rfl)) (fun q hq => hq) dCO_7 ?_
  refine lv_goto (tgt := 14) hx hb dCO_10 rfl ?_
  exact W.zret (v := 0) hx hb hr rfl (fun t ht _ => ⟨rfl, ht⟩) (fun q h => by cases h) dCO_14
theorem dLN_0 : decode bLN 0 = .ok (.aload_n 0, 1) := by decide +kernel
theorem dLN_1 : decode bLN 1 = .ok (.getfield 9, 3) := by decide +kernel
theorem dLN_4 : decode bLN 4 = .ok (.arraylength, 1) := by decide +kernel
theorem dLN_5 : decode bLN 5 = .ok (.aload_n 0, 1) := by decide +kernel
theorem dLN_6 : decode bLN 6 = .ok (.invokevirtual 335, 3) := by decide +kernel
theorem dLN_9 : decode bLN 9 = .ok (.ishr, 1) := by decide +kernel
theorem dLN_10 : decode bLN 10 = .ok (.ireturn, 1) := by decide +kernel
theorem shr_0 (v : Int32) : v >>> ((0 : Int32) &&& 31) = v := by
  apply Int32.toBitVec.inj
  simp [Int32.toBitVec_shiftRight]
theorem c_LN (l : Launch) {Ts : List Cond} (hG : ∀ w ∈ Ts, goodWord w = true) (hS : ∀ w ∈ strL, w ∈ Ts) (base q n : Nat) (f : Nat → Int32) : Met l yLN (Cond.code yLN bLN 1 (some .int) :: Ts) (rmS 1) (fun a U => a = ([.ref q] : List Value).toArray ∧ txF base q n f U ∧ csF base U) (qRd (some (.int (Int32.ofNat n)))) 0 0 (fun _ => False) := by
  refine Met.ofW (cc := bLN) (maxL := 1) (ret := some .int) (by decide) rfl ?_
  intro p e s m args below meth c s₁ B hml hv
  obtain ⟨rfl, hX, hC⟩ := hv
  obtain ⟨qv, t1, t2, t3, t4⟩ := id hX
  have hx := B.exec
  have hb := B.bytes
  have hr := B.returns
  have hlocks := B.notSynchronized
  have hts := atoms_spec (ws := Cond.code yLN bLN 1 (some .int) :: Ts) B.pre
  have htT : ∀ w ∈ Ts, w.before ([.ref q] : List Value).toArray s = true := fun w hw => hts w (List.mem_cons_of_mem _ hw)
  have hown : s.vm.findClass "java/lang/String" = some m.cls := findClass_of_methodNamed B.named
  have hl := lv_entry ([.ref q]) (n := 1) (Nat.le_of_ble_eq_true rfl)
  rw [lg_entry_eq]
  generalize (lg_sl ([.ref q]) ++ List.replicate (1 - (lg_sl ([.ref q])).length) Slot.unset).toArray = ls at hl ⊢
  have hl0 : ls[0]? = some (.val (.ref q)) := lv_at hl 0 rfl
  have hSS : va_S (fun q => base ≤ q) s.heap s.heap [] := va_S.rf
  refine lv_aload_n hx hb dLN_0 rfl hl0 ?_
  refine vk_getf hx hb t3 hSS hown (htT _ (strL_at hS 19 rfl)) (fun q hq => hq) dLN_1 ?_
  refine va_tlen hx hb t4 hSS rfl dLN_4 ?_
  refine lv_aload_n hx hb dLN_5 rfl hl0 ?_
  refine W.callX (W.runV (y := yCO) (C := "java/lang/String") (b := q) (bytes := bCO) (maxL := 1) (ret := some .byte) (n := 0) (As := []) (rest := [.int (Int32.ofNat n)]) (Ts := Ts) ⟨hx, hb, hml, hown, htT⟩ (c_CO l hS base q n f) ⟨callB_of 0 htT (goodS hG (strL_at hS 23 rfl)) rfl rfl rfl (htT _ (strL_at hS 7 rfl)) (htT _ (strL_at hS 26 rfl)) ⟨by decide, by decide, by decide +kernel⟩ (roomD 0 1 1 (by decide) (by decide)), htT _ (strL_at hS 24 rfl), htT _ (strL_at hS 25 rfl)⟩ ⟨fun a U g mk h => ⟨h.1, txF_on (U := U.calling g mk a) h.2.1 (Vm.Alike.refl U.vm) (fun _ _ _ => rfl), csF_on (U := U.calling g mk a) h.2.2 (Vm.Alike.refl U.vm) (fun _ _ _ => rfl)⟩, (by obtain ⟨cell, k1, k2, k3, -⟩ := t1; exact ⟨cell, k1, k2, k3⟩), fun U hU hW => ⟨rfl, txF_on hX hW.alike (fun _ _ _ => by rw [hU]), csF_on hC hW.alike (fun _ _ _ => by rw [hU])⟩⟩ rfl rfl hl.1 rfl (Nat.le_of_ble_eq_true rfl) dLN_6 ⟨Nat.zero_le _, Nat.zero_le _⟩) (fun q h => h.elim) (fun v st₀ t k1 k2 => ?_)
  obtain ⟨k3, k4⟩ := k2
  cases k3
  rw [k4, k1]
  refine lv_ishr hx hb dLN_9 ?_
  rw [shr_0]
  exact W.iret hx hb hr (fun t ht _ => ⟨rfl, ht⟩) (fun q h => by cases h) dLN_10
